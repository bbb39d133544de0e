/-! MOVES: the class keeps what is, and carries a plan out. -/
def FrP (σ σ' : Wd) : Prop := σ'.2 = σ.2 ∧ ∀ p, (p < 29 ∨ 33 < p) → σ'.1 p = σ.1 p
theorem FrP.rfl' (σ : Wd) : FrP σ σ := ⟨rfl, fun _ _ => rfl⟩
theorem FrP.trans {σ σ' σ'' : Wd} (h : FrP σ σ') (g : FrP σ' σ'') : FrP σ σ'' := ⟨g.1.trans h.1, fun p hp => (g.2 p hp).trans (h.2 p hp)⟩
theorem FrP.put {σ : Wd} {q k : Nat} {v : Int32} (h1 : 29 ≤ q) (h2 : q ≤ 33) : FrP σ (sI σ q k v) := ⟨rfl, fun p hp => sI_place (by omega)⟩
theorem FrP.RN {σ σ' : Wd} {t : Nt} (h : FrP σ σ') (r : RN σ t) : RN σ' t := r.same (fun p _ hp => h.2 p (by omega))
theorem FrP.eq {σ σ' : Wd} (h : FrP σ σ') : EqC σ σ' := ⟨fun p hp => h.2 p (by omega), by rw [h.2 28 (by omega)], fun p _ => by rw [h.1]⟩
/-- the wires that come, in the plan's rows -/
def PR (σ : Wd) (L : List (Nat × Nat × Nat)) : Prop := σ.1 29 6 = nI L.length ∧ ∀ j, j < L.length → σ.1 30 j = nI (L.getD j (0, 0, 0)).1 ∧ σ.1 31 j = nI (L.getD j (0, 0, 0)).2.1 ∧ σ.1 32 j = nI (L.getD j (0, 0, 0)).2.2
def PC (σ : Wd) (ch : Option (Nat × Nat)) : Prop := (ch = none → σ.1 29 3 = -1) ∧ ∀ x, ch = some x → σ.1 29 3 = nI x.1 ∧ σ.1 29 4 = nI x.2
/-- a plan in the class's cells -/
def PS (σ : Wd) (M : Mv) : Prop := σ.1 29 1 = nI M.ng ∧ σ.1 29 2 = nI M.wg ∧ PC σ M.ch ∧ σ.1 29 5 = nI M.nn ∧ PR σ M.L
theorem drop_getD {L : List (Nat × Nat × Nat)} {k : Nat} (h : k < L.length) : L.drop k = L.getD k (0, 0, 0) :: L.drop (k + 1) := by
  rw [List.getD_eq_getElem?_getD, List.getElem?_eq_getElem h]
  exact List.drop_eq_getElem_cons h
section carry
variable {N : Nat} {σ τ : Wd} {t : Nt}
theorem v_keepAs (r : RN σ t) (i : IN t) {m : Nat} (hm : m < 20) (hk : σ.1 28 9 = nI m) {ch : Option (Nat × Nat)} (hc : PC σ ch) (hch : ∀ x, ch = some x → x.1 < t.nW) :
    ∃ σ', f_X3_keepAsItIs N σ = some (1, σ') ∧ σ'.1 28 9 = nI (m + 1) ∧ (σ'.1 34 m = nI t.nd ∧ σ'.1 35 m = nI t.wr ∧ σ'.1 36 m = nI t.nN ∧ σ'.1 37 m = nI t.nW) ∧ ((ch = none → σ'.1 38 m = -1) ∧ ∀ x, ch = some x → σ'.1 38 m = nI x.1 ∧ σ'.1 39 m = nI (t.c x.1)) ∧ (∀ p j, 34 ≤ p → p ≤ 39 → j ≠ m → σ'.1 p j = σ.1 p j) ∧ (∀ p, p < 34 → p ≠ 28 → σ'.1 p = σ.1 p) ∧ (∀ p, 39 < p → σ'.1 p = σ.1 p) ∧ σ'.2 = σ.2 := by
  have hnW := i.nW
  have hcond : ∃ v, (∀ s : Wd, s.1 4 = σ.1 4 → f_X4_conductanceOf N s (σ.1 29 3) = some v) ∧ ∀ x, ch = some x → v = nI (t.c x.1) := by
    cases ch with
    | none =>
      refine ⟨0, fun s _ => ?_, fun x hx => absurd hx (by simp)⟩
      rw [hc.1 rfl]
      unfold f_X4_conductanceOf
      rw [if_pos (by decide)]
    | some x =>
      have h1 := hch x rfl
      refine ⟨nI (t.c x.1), fun s hs => ?_, fun y hy => by simp at hy; rw [hy]⟩
      rw [(hc.2 x rfl).1]
      unfold f_X4_conductanceOf
      simp (disch := omega) only [lt0, if_false, lq20, nI_leI, if_neg, rI_n, hs, r.c x.1 h1]
  obtain ⟨v, hv1, hv2⟩ := hcond
  unfold f_X3_keepAsItIs
  simp (disch := omega) only [gI, wI, hk, lt0, if_false, lq20, nI_ltI, if_pos, sI_place, aI_n]
  rw [hv1 _ (by simp (disch := omega) only [sI_place]), bP_s]
  simp (disch := omega) only [sI_place, hk, nI_1]
  refine ⟨_, rfl, sI_same _ _ _ _, ⟨?_, ?_, ?_, ?_⟩, ⟨fun h => ?_, fun x hx => ⟨?_, ?_⟩⟩, fun p j h1 h2 hj => ?_, fun p h1 h2 => ?_, fun p h => ?_, rfl⟩
  · simp (disch := omega) only [sI_same, sI_place]; exact r.nd
  · simp (disch := omega) only [sI_same, sI_place]; exact r.wr
  · simp (disch := omega) only [sI_same, sI_place]; exact r.nN
  · simp (disch := omega) only [sI_same, sI_place]; exact r.nW
  · simp (disch := omega) only [sI_same, sI_place]; exact hc.1 h
  · simp (disch := omega) only [sI_same, sI_place]; exact (hc.2 x hx).1
  · simp (disch := omega) only [sI_same, sI_place]; exact hv2 x hx
  · have z : ∀ (s : Wd) (q : Nat) (w : Int32), (sI s q m w).1 p j = s.1 p j := fun s q w => by rw [sI_at, if_neg (fun e => hj e.2)]
    rw [sI_place (by omega), z, z, z, z, z, z]
  · simp (disch := omega) only [sI_place]
  · simp (disch := omega) only [sI_place]
theorem v_carry84 {ρ : Type} {K : Wd → Option ρ} {L : List (Nat × Nat × Nat)} (hL : L.length ≤ 3) : ∀ d k n (s : Wd) (u : Nt), k + d = L.length → d < n → RN s u → IN u → u.nW + d ≤ 20 → pc u.wr + d ≤ 12 → (∀ e ∈ L.drop k, u.nd.testBit e.1 = true ∧ u.nd.testBit e.2.1 = true ∧ 1 ≤ e.2.2 ∧ e.2.2 ≤ 60) → PR s L →
    ∃ s', fl_X3_carryOut_84 N K n (nI k) s = K s' ∧ RN s' (addWs u (L.drop k)) ∧ (∀ p, p = 0 ∨ 4 < p → s'.1 p = s.1 p) ∧ s'.2 = s.2 := by
  intro d
  induction d with
  | zero =>
    intro k n s u hk hn r i h1 h2 h3 h4
    obtain ⟨n, rfl⟩ : ∃ m, n = m + 1 := ⟨n - 1, by omega⟩
    refine ⟨s, ?_, ?_, fun p _ => rfl, rfl⟩
    · rw [fl_X3_carryOut_84]
      simp only [gI, h4.1]
      rw [if_pos (nI_le (by omega) (by omega))]
    · rw [List.drop_eq_nil_of_le (by omega)]; exact r
  | succ d ih =>
    intro k n s u hk hn r i h1 h2 h3 h4
    obtain ⟨n, rfl⟩ : ∃ m, n = m + 1 := ⟨n - 1, by omega⟩
    have hd := drop_getD (L := L) (k := k) (by omega)
    rw [hd] at h3
    obtain ⟨a, b, c⟩ := h3 _ List.mem_cons_self
    obtain ⟨p1, p2, p3⟩ := h4.2 k (by omega)
    obtain ⟨s1, e1, g1, g2, g3⟩ := v_addWire (N := N) r i (by omega) (L.getD k (0, 0, 0)).1 (L.getD k (0, 0, 0)).2.1 (L.getD k (0, 0, 0)).2.2
    have i' : IN (u.addW (L.getD k (0, 0, 0)).1 (L.getD k (0, 0, 0)).2.1 (L.getD k (0, 0, 0)).2.2) := i.addW (by omega) (by omega) a b c
    have hp : pc (u.addW (L.getD k (0, 0, 0)).1 (L.getD k (0, 0, 0)).2.1 (L.getD k (0, 0, 0)).2.2).wr = pc u.wr + 1 := pc_or i.wr (by omega)
    have hnW : (u.addW (L.getD k (0, 0, 0)).1 (L.getD k (0, 0, 0)).2.1 (L.getD k (0, 0, 0)).2.2).nW = u.nW + 1 := rfl
    obtain ⟨s', e2, k1, k2, k3⟩ := ih (k + 1) n s1 _ (by omega) (by omega) g1 i' (by rw [hnW]; omega) (by rw [hp]; omega) (fun x hx => h3 x (List.mem_cons_of_mem _ hx)) (by
      unfold PR at *
      rw [g2 29 (by omega), g2 30 (by omega), g2 31 (by omega), g2 32 (by omega)]; exact h4)
    refine ⟨s', ?_, ?_, fun p hp => (k2 p hp).trans (g2 p hp), k3.trans g3⟩
    · rw [fl_X3_carryOut_84]
      simp (disch := omega) only [gI, h4.1, lq3, nI_leI, if_neg, rI_n, p1, p2, p3]
      rw [e1, bS_s, nI_1]
      exact e2
    · rw [hd]; exact k1
theorem v_carry (r : RN σ t) (i : IN t) {M : Mv} (g : GM t M) (ps : PS σ M) (hN : 100 ≤ N) : ∃ σ', f_X3_carryOut N σ = some σ' ∧ RN σ' (t.app M) ∧ (∀ p, p = 0 ∨ 4 < p → σ'.1 p = σ.1 p) ∧ σ'.2 = σ.2 := by
  obtain ⟨q1, q2, q3, q4, q5⟩ := ps
  obtain ⟨b1, b2, b3, b4, b5, b6, b7⟩ := g.base i
  obtain ⟨a1, a2, a3, a4, a5, a6, a7, a8, a9, a10, a11⟩ := g
  have hf := i.few
  have hnW := i.nW
  -- what goes, and what changes
  have h9 : ∃ s9, f_X4_setConductance N (sI (sI σ 1 0 (nI (mn t.nd M.ng))) 1 2 (nI (mn t.wr M.wg))) (σ.1 29 3) (σ.1 29 4) = some s9 ∧ RN s9 (t.cut M.ng M.wg (cgd t.c M.ch)) ∧ (∀ p, p = 0 ∨ 4 < p → s9.1 p = σ.1 p) ∧ s9.2 = σ.2 := by
    have base : ∀ s : Wd, s.1 1 0 = nI (mn t.nd M.ng) → s.1 1 1 = σ.1 1 1 → s.1 1 2 = nI (mn t.wr M.wg) → s.1 1 3 = σ.1 1 3 → s.1 1 4 = σ.1 1 4 → s.1 2 = σ.1 2 → s.1 3 = σ.1 3 → (∀ w, w < t.nW → s.1 4 w = nI (cgd t.c M.ch w)) → RN s (t.cut M.ng M.wg (cgd t.c M.ch)) := fun s z0 z1 z2 z3 z4 z5 z6 z7 =>
      ⟨z0, z1.trans r.ed, z2, z3.trans r.nN, z4.trans r.nW, fun w hw => by rw [z5]; exact r.f w hw, fun w hw => by rw [z6]; exact r.s w hw, z7⟩
    cases hc : M.ch with
    | none =>
      rw [q3.1 hc, v_setCond1]
      rw [hc] at base
      refine ⟨_, rfl, base _ ?_ ?_ ?_ ?_ ?_ ?_ ?_ (fun w hw => ?_), fun p hp => ?_, rfl⟩
      · simp (disch := omega) only [sI_same, sI_slot, sI_place]
      · simp (disch := omega) only [sI_same, sI_slot, sI_place]
      · simp (disch := omega) only [sI_same, sI_slot, sI_place]
      · simp (disch := omega) only [sI_same, sI_slot, sI_place]
      · simp (disch := omega) only [sI_same, sI_slot, sI_place]
      · simp (disch := omega) only [sI_place]
      · simp (disch := omega) only [sI_place]
      · simp (disch := omega) only [sI_place]; exact r.c w hw
      · simp (disch := omega) only [sI_place]
    | some x =>
      have hx : x.1 < 20 := bit20 i.wr20 (a4 x hc).1
      rw [(q3.2 x hc).1, (q3.2 x hc).2, v_setCond hx]
      rw [hc] at base
      refine ⟨_, rfl, base _ ?_ ?_ ?_ ?_ ?_ ?_ ?_ (fun w hw => ?_), fun p hp => ?_, rfl⟩
      · simp (disch := omega) only [sI_same, sI_slot, sI_place]
      · simp (disch := omega) only [sI_same, sI_slot, sI_place]
      · simp (disch := omega) only [sI_same, sI_slot, sI_place]
      · simp (disch := omega) only [sI_same, sI_slot, sI_place]
      · simp (disch := omega) only [sI_same, sI_slot, sI_place]
      · simp (disch := omega) only [sI_place]
      · simp (disch := omega) only [sI_place]
      · show _ = nI (upN t.c x.1 x.2 w)
        by_cases e : w = x.1
        · rw [e, sI_same, upN_s]
        · rw [sI_slot e, upN_o e]
          simp (disch := omega) only [sI_place]; exact r.c w hw
      · simp (disch := omega) only [sI_place]
  obtain ⟨s9, e9, r9, f9, l9⟩ := h9
  -- a node that comes
  have h11 : ∃ s11, (if nI M.nn ≤ 0 then fl_X3_carryOut_84 N (fun s18 => some s18) N 0 s9 else bS (f_X4_addNode N s9 0) fun v19 s20 => fl_X3_carryOut_84 N (fun s18 => some s18) N 0 s20) = fl_X3_carryOut_84 N (fun s18 => some s18) N 0 s11 ∧ RN s11 (t.base M) ∧ (∀ p, p = 0 ∨ 4 < p → s11.1 p = σ.1 p) ∧ s11.2 = σ.2 := by
    by_cases h0 : M.nn = 0
    · refine ⟨s9, ?_, ?_, f9, l9⟩
      · rw [if_pos (by rw [h0]; decide)]
      · have e : t.base M = t.cut M.ng M.wg (cgd t.c M.ch) := if_pos h0
        rw [e]; exact r9
    · obtain ⟨s20, e20, g1, g2, g3⟩ := v_addNode (N := N) r9 b7 (show t.nN < 7 by omega) false
      refine ⟨s20, ?_, ?_, fun p hp => (g2 p (by omega)).trans (f9 p hp), g3.trans l9⟩
      · rw [if_neg (nI_nle (by omega) (by omega)), show (0 : Int32) = bI false from rfl, e20, bS_s]
      · have e : t.base M = (t.cut M.ng M.wg (cgd t.c M.ch)).addN false := if_neg h0
        rw [e]; exact g1
  obtain ⟨s11, e11, r11, f11, l11⟩ := h11
  obtain ⟨s', e1, k1, k2, k3⟩ := v_carry84 (N := N) (K := fun s18 => some s18) a10 M.L.length 0 N s11 (t.base M) (by omega) (by omega) r11 b1 (by rw [b2]; omega) (by omega) (by rw [List.drop_zero]; exact b6) (by
    unfold PR at *
    rw [f11 29 (by omega), f11 30 (by omega), f11 31 (by omega), f11 32 (by omega)]; exact q5)
  rw [List.drop_zero] at k1
  refine ⟨s', ?_, k1, fun p hp => (k2 p hp).trans (f11 p hp), k3.trans l11⟩
  unfold f_X3_carryOut
  simp (disch := omega) only [gI, wI, sI_place, sI_slot, r.nd, r.wr, q1, q2, mn_c, jn_e]
  rw [e9, bP_s, f9 29 (by omega), q4]
  exact e11.trans e1
/-- doIfPossible behind the plan -/
noncomputable def fin98 (N : Nat) (s2 : Wd) : Option (Int32 × Wd) :=
  gI s2 29 0 fun v3 =>
  if v3 = 0 then (
    some (0, s2))
  else (
    gI s2 29 5 fun v4 =>
    gI s2 29 6 fun v5 =>
    bP (f_X4_hasRoom N s2 v4 v5) fun v6 =>
    if v6 = 0 then (
      some (0, s2))
    else (
      bS (f_X3_keepAsItIs N s2) fun v7 s8 =>
      if v7 = 0 then (
        some (0, s8))
      else (
        bP (f_X3_carryOut N s8) fun s9 =>
        some (1, s9))))
theorem fin_no (h : σ.1 29 0 = 0) : fin98 N σ = some (0, σ) := by
  unfold fin98
  simp only [gI, h, if_true]
theorem fin_full (r : RN σ t) (i : IN t) {M : Mv} (ps : PS σ M) (hn : M.nn ≤ 1) (hL : M.L.length ≤ 3) (h : ¬ (t.nN + M.nn ≤ 7 ∧ t.nW + M.L.length ≤ 20)) : fin98 N σ = some (0, σ) := by
  unfold fin98
  simp only [gI]
  split
  · rfl
  · rw [ps.2.2.2.1, ps.2.2.2.2.1, v_hasRoom (N := N) (a := M.nn) (b := M.L.length) r i (by omega) hL, decide_eq_false h, bP_s, if_pos (show bI false = 0 from rfl)]
theorem fin_yes (r : RN σ t) (i : IN t) {M : Mv} (h1 : σ.1 29 0 = 1) (ps : PS σ M) (g : GM t M) {m : Nat} (hm : m < 20) (hk : σ.1 28 9 = nI m) (hN : 100 ≤ N) :
    ∃ σ', fin98 N σ = some (1, σ') ∧ RN σ' (t.app M) ∧ σ'.1 28 9 = nI (m + 1) ∧ (σ'.1 34 m = nI t.nd ∧ σ'.1 35 m = nI t.wr ∧ σ'.1 36 m = nI t.nN ∧ σ'.1 37 m = nI t.nW) ∧ ((M.ch = none → σ'.1 38 m = -1) ∧ ∀ x, M.ch = some x → σ'.1 38 m = nI x.1 ∧ σ'.1 39 m = nI (t.c x.1)) ∧ (∀ p j, 34 ≤ p → p ≤ 39 → j ≠ m → σ'.1 p j = σ.1 p j) ∧ (∀ p, 39 < p → σ'.1 p = σ.1 p) ∧ σ'.2 = σ.2 := by
  have g0 := g
  obtain ⟨a1, a2, a3, a4, a5, a6, a7, a8, a9, a10, a11⟩ := g0
  obtain ⟨s1, e1, k1, k2, k3, k4, k5, k6, k7⟩ := v_keepAs (N := N) r i hm hk ps.2.2.1 (fun x hx => bit_lt i.wr (a4 x hx).1)
  have ps1 : PS s1 M := by
    unfold PS PC PR at *
    rw [k5 29 (by omega) (by omega), k5 30 (by omega) (by omega), k5 31 (by omega) (by omega), k5 32 (by omega) (by omega)]; exact ps
  obtain ⟨s2, e2, l1, l2, l3⟩ := v_carry (N := N) (r.same (fun p _ hp => k5 p (by omega) (by omega))) i g ps1 hN
  refine ⟨s2, ?_, l1, ?_, ?_, ?_, fun p j z1 z2 z3 => ?_, fun p hp => ?_, l3.trans k7⟩
  · unfold fin98
    simp only [gI]
    rw [h1, if_neg (by decide), ps.2.2.2.1, ps.2.2.2.2.1, v_hasRoom (N := N) (a := M.nn) (b := M.L.length) r i (by omega) a10, decide_eq_true ⟨a6, a7⟩, bP_s, if_neg (by decide), e1, bS_s, if_neg (by decide), e2, bP_s]
  · rw [l2 28 (by omega)]; exact k1
  · rw [l2 34 (by omega), l2 35 (by omega), l2 36 (by omega), l2 37 (by omega)]; exact k2
  · rw [l2 38 (by omega), l2 39 (by omega)]; exact k3
  · rw [l2 p (by omega)]; exact k4 p j z1 z2 z3
  · rw [l2 p (by omega)]; exact k6 p hp
end carry
