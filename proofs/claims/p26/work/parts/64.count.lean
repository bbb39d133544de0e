/-! THE CLASS'S COUNTS, as sums over the sets of wires that are there. -/
theorem pc_upto {S n : Nat} (hS : S < 2 ^ n) (hn : n ≤ 20) : pc S = fb_ct (fun k => S.testBit k) n := by
  unfold pc
  obtain ⟨m, hm⟩ : ∃ m, 20 = n + m := ⟨20 - n, by omega⟩
  rw [hm, fb_ct_split]
  have : fb_ct (fun k => S.testBit (n + k)) m = 0 := fb_ct_zero.mpr (fun k _ => Nat.testBit_lt_two_pow (Nat.lt_of_lt_of_le hS (Nat.pow_le_pow_right (by decide) (by omega))))
  omega
theorem ite_iC {c P : Prop} [Decidable c] {x y : Nat} (h : c ↔ P) : (if c then x else y) = iC P x y := by
  by_cases hc : c
  · rw [if_pos hc, iC_pos (h.mp hc)]
  · rw [if_neg hc, iC_neg (fun q => hc (h.mpr q))]
theorem Vd_congr {ok ok' : Ed → List Ed → Bool} : ∀ (S T : List Ed), (∀ e ∈ S, ∀ T, ok e T = ok' e T) → Vd ok T S = Vd ok' T S
  | [], T, _ => rfl
  | e :: S, T, h => by
    unfold Vd
    rw [h e List.mem_cons_self, Vd_congr S (e :: T) (fun x hx => h x (List.mem_cons_of_mem _ hx))]
noncomputable def okX (R : Nat) (e : Ed) (T : List Ed) : Bool := if e.2.1 < 7 then okR R e T else @decide (¬ Cn T e.1 e.2.1 ∧ PD (e :: T) (rts R)) (Classical.propDecidable _)
theorem Vd_ok {R : Nat} {S : List Ed} (hS : ∀ e ∈ S, e.2.1 < 7) : Vd (okR R) [] S = true ↔ Ac S ∧ PD S (rts R) := by
  rw [Vd_congr (ok' := okX R) S [] (fun e he T => (if_pos (hS e he)).symm), Vd_iff (R := rts R) (fun e T hT => ?_) S [] trivial (fun x hx y hy h => Cn_nil.mp h), List.append_nil, Ac_reverse]
  · exact ⟨fun h => ⟨h.1, fun x hx y hy hc => h.2 x hx y hy (Cn_reverse.mpr hc)⟩, fun h => ⟨h.1, fun x hx y hy hc => h.2 x hx y hy (Cn_reverse.mp hc)⟩⟩
  · unfold okX
    by_cases h : e.2.1 < 7
    · rw [if_pos h]; exact okR_iff h hT
    · rw [if_neg h]
      exact @decide_eq_true_iff _ (Classical.propDecidable _)
def sumW (p : Nat → Bool) (g : Nat → Ed) : Nat → (List Ed → Nat) → Nat
  | 0, F => F []
  | k + 1, F => if p k then sumW p g k F + sumW p g k (fun S => F (g k :: S)) else sumW p g k F
theorem getD_snoc {l : List Nat} {x j : Nat} (h : j < l.length) : (l ++ [x]).getD j 0 = l.getD j 0 := by
  rw [List.getD_eq_getElem?_getD, List.getD_eq_getElem?_getD, List.getElem?_append_left h]
theorem getD_last {l : List Nat} {x : Nat} : (l ++ [x]).getD l.length 0 = x := by
  rw [List.getD_eq_getElem?_getD, List.getElem?_append_right (Nat.le_refl _)]
  simp
theorem sumW_pick {p : Nat → Bool} {g : Nat → Ed} : ∀ (m : Nat) (F : List Ed → Nat), sumW p g m F = sumS (fun j => g ((pick p m).getD j 0)) (pick p m).length F
  | 0, F => rfl
  | k + 1, F => by
    unfold sumW pick
    cases h : p k
    · simp only [Bool.false_eq_true, if_false]
      exact sumW_pick k F
    · simp only [if_true]
      rw [sumW_pick k F, sumW_pick k (fun S => F (g k :: S)), List.length_append]
      show _ = sumS _ ((pick p k).length + 1) F
      show _ = sumS _ _ _ + sumS _ _ _
      have e : (fun S => F (g ((pick p k ++ [k]).getD (pick p k).length 0) :: S)) = fun S => F (g k :: S) := by rw [getD_last]
      rw [e]
      congr 1
      · exact sumS_ext _ _ (fun i hi => by rw [getD_snoc hi])
      · exact sumS_ext _ _ (fun i hi => by rw [getD_snoc hi])
theorem sumW_congr {p : Nat → Bool} {g : Nat → Ed} : ∀ (m : Nat) (F G : List Ed → Nat), (∀ is : List Nat, is.Pairwise (fun a b => b < a) → (∀ i ∈ is, i < m ∧ p i = true) → F (is.map g) = G (is.map g)) → sumW p g m F = sumW p g m G
  | 0, F, G, h => h [] List.Pairwise.nil (fun i hi => nomatch hi)
  | k + 1, F, G, h => by
    have h1 : sumW p g k F = sumW p g k G := sumW_congr k F G (fun is hp hl => h is hp (fun i hi => ⟨Nat.lt_succ_of_lt (hl i hi).1, (hl i hi).2⟩))
    unfold sumW
    cases hk : p k
    · simp only [Bool.false_eq_true, if_false]; exact h1
    · simp only [if_true]
      rw [h1]
      congr 1
      refine sumW_congr k _ _ (fun is hp hl => h (k :: is) (List.pairwise_cons.mpr ⟨fun i hi => (hl i hi).1, hp⟩) (fun i hi => ?_))
      rcases List.mem_cons.mp hi with rfl | hi
      · exact ⟨Nat.lt_succ_self _, hk⟩
      · exact ⟨Nat.lt_succ_of_lt (hl i hi).1, (hl i hi).2⟩
theorem sumW_zero {p : Nat → Bool} {g : Nat → Ed} : ∀ m, sumW p g m (fun _ => 0) = 0
  | 0 => rfl
  | k + 1 => by unfold sumW; rw [sumW_zero k]; split <;> rfl
theorem sumW_drop {p q : Nat → Bool} {g : Nat → Ed} : ∀ (m : Nat) (F : List Ed → Nat), (∀ i, i < m → p i = true → q i = true) → (∀ i, i < m → q i = true → p i = false → ∀ S, g i ∈ S → F S = 0) → sumW q g m F = sumW p g m F
  | 0, F, _, _ => rfl
  | k + 1, F, h1, h2 => by
    have e1 := sumW_drop k F (fun i hi => h1 i (by omega)) (fun i hi => h2 i (by omega))
    unfold sumW
    cases hq : q k
    · have hp : p k = false := by
        cases hp : p k
        · rfl
        · rw [h1 k (by omega) hp] at hq; exact absurd hq (by decide)
      rw [hp, e1]; rfl
    · cases hp : p k
      · have : (fun S => F (g k :: S)) = fun _ => 0 := funext fun S => h2 k (by omega) hq hp _ List.mem_cons_self
        simp only [Bool.false_eq_true, if_false, if_true]
        rw [this, sumW_zero, e1]; rfl
      · simp only [if_true]
        rw [e1, sumW_drop k (fun S => F (g k :: S)) (fun i hi => h1 i (by omega)) (fun i hi hq hp S hS => h2 i (by omega) hq hp _ (List.mem_cons_of_mem _ hS))]
theorem mem_pick {p : Nat → Bool} : ∀ {m i : Nat}, i ∈ pick p m ↔ i < m ∧ p i = true
  | 0, i => by simp [pick]
  | k + 1, i => by
    unfold pick
    cases h : p k
    · simp only [Bool.false_eq_true, if_false]
      rw [mem_pick]
      refine ⟨fun q => ⟨by omega, q.2⟩, fun q => ⟨Nat.lt_of_le_of_ne (by omega) (fun e => ?_), q.2⟩⟩
      rw [e, h] at q; exact absurd q.2 (by decide)
    · simp only [if_true]
      rw [List.mem_append, mem_pick, List.mem_singleton]
      constructor
      · rintro (q | rfl)
        · exact ⟨by omega, q.2⟩
        · exact ⟨by omega, h⟩
      · intro q
        rcases Nat.lt_or_ge i k with z | z
        · exact Or.inl ⟨z, q.2⟩
        · exact Or.inr (by omega)
theorem getD_mem {l : List Nat} {j : Nat} (h : j < l.length) : l.getD j 0 ∈ l := by
  rw [List.getD_eq_getElem?_getD, List.getElem?_eq_getElem h]
  exact List.getElem_mem h
/-- the wires that are there, and those of them that are no rings -/
def Nt.P (t : Nt) (w : Nat) : Bool := t.wr.testBit w
def Nt.Q (t : Nt) (w : Nat) : Bool := t.wr.testBit w && !(t.f w == t.s w)
/-- forests by roots, with two nodes in one tree -/
noncomputable def cntC (t : Nt) (R a b : Nat) : Nat := sumW t.P t.g 20 (fun S => iC (S.length + pc R = pc t.nd ∧ Ac S ∧ PD S (rts R) ∧ Cn S a b) (wt S) 0)
theorem Ac_ring {S : List Ed} {e : Ed} (he : e ∈ S) (hr : e.1 = e.2.1) : ¬ Ac S := by
  intro h
  obtain ⟨P, Q, rfl⟩ := List.append_of_mem he
  exact h.br P e Q rfl (hr ▸ Cn.rfl')
/-- what a count changes of the class's cells -/
def FrC (σ σ' : Wd) : Prop := σ'.2 = σ.2 ∧ ∀ p, (p < 5 ∨ 15 < p) → σ'.1 p = σ.1 p
theorem FrC.trans {σ σ' σ'' : Wd} (h : FrC σ σ') (g : FrC σ' σ'') : FrC σ σ'' := ⟨g.1.trans h.1, fun p hp => (g.2 p hp).trans (h.2 p hp)⟩
theorem FrC.rfl' (σ : Wd) : FrC σ σ := ⟨rfl, fun _ _ => rfl⟩
theorem FrC.RN {σ σ' : Wd} {t : Nt} (h : FrC σ σ') (r : RN σ t) : RN σ' t := r.same (fun p _ hp => h.2 p (Or.inl (by omega)))
section begin'
variable {N : Nat} {t : Nt}
theorem v_begin31 {ρ : Type} {K : Wd → Option ρ} (i : IN t) : ∀ d k n (s : Wd), k + d = 20 → d < n → RN s t → s.1 5 4 = nI (pick t.Q k).length → (∀ j, j < (pick t.Q k).length → s.1 6 j = nI ((pick t.Q k).getD j 0)) →
    ∃ s', fl_X0_begin_31 N K n (nI k) s = K s' ∧ s'.1 5 4 = nI (pick t.Q 20).length ∧ (∀ j, j < (pick t.Q 20).length → s'.1 6 j = nI ((pick t.Q 20).getD j 0)) ∧ (∀ p, p ≠ 5 → p ≠ 6 → s'.1 p = s.1 p) ∧ (∀ j, j ≠ 4 → s'.1 5 j = s.1 5 j) ∧ s'.2 = s.2 := by
  intro d
  induction d with
  | zero =>
    intro k n s hk hn r h4 h6
    obtain ⟨n, rfl⟩ : ∃ e, n = e + 1 := ⟨n - 1, by omega⟩
    have hk : k = 20 := by omega
    subst hk
    refine ⟨s, ?_, h4, h6, fun p _ _ => rfl, fun j _ => rfl, rfl⟩
    rw [fl_X0_begin_31]
    rw [lq20, if_pos (nI_le (Nat.le_refl _) (by omega))]
  | succ d ih =>
    intro k n s hk hn r h4 h6
    obtain ⟨n, rfl⟩ : ∃ e, n = e + 1 := ⟨n - 1, by omega⟩
    have hlen := pick_len_le t.Q k
    have hQ : t.Q k = (t.wr.testBit k && !(t.f k == t.s k)) := rfl
    rw [fl_X0_begin_31]
    simp (disch := omega) only [lq20, nI_leI, if_neg, jn_e, nI_1]
    rw [v_hasWire r i, bP_s, if_bI0, inS_n (by omega), v_isRing r i (by omega), bP_s, if_bI0]
    cases hw : t.wr.testBit k
    · rw [hw] at hQ
      have e : pick t.Q (k + 1) = pick t.Q k := by rw [pick, hQ]; rfl
      exact ih (k + 1) n s (by omega) (by omega) r (by rw [e]; exact h4) (by rw [e]; exact h6)
    · cases hr : t.f k == t.s k
      · rw [hw, hr] at hQ
        have e : pick t.Q (k + 1) = pick t.Q k ++ [k] := by rw [pick, hQ]; rfl
        simp (disch := omega) only [gI, h4, nI_leI, if_neg, aI_n, sI_place, nI_1, wI, if_true, if_false, Bool.false_eq_true]
        obtain ⟨s', e1, g1, g2, g3, g4, g5⟩ := ih (k + 1) n (sI (sI s 6 (pick t.Q k).length (nI k)) 5 4 (nI ((pick t.Q k).length + 1))) (by omega) (by omega)
          (r.same (fun p hp hp' => by rw [sI_place (by omega), sI_place (by omega)])) (by rw [e, sI_same, List.length_append]; rfl)
          (fun j hj => by
            rw [e, List.length_append] at hj
            rw [e, sI_place (by omega)]
            rcases Nat.lt_or_ge j (pick t.Q k).length with z | z
            · rw [sI_slot (by omega), getD_snoc z, h6 j z]
            · have : j = (pick t.Q k).length := by simp only [List.length_cons, List.length_nil] at hj; omega
              subst this
              rw [sI_same, getD_last])
        refine ⟨s', e1, g1, g2, fun p h1 h2 => ?_, fun j hj => ?_, g5⟩
        · rw [g3 p h1 h2, sI_place h1, sI_place h2]
        · rw [g4 j hj, sI_slot hj, sI_place (by omega)]
      · rw [hw, hr] at hQ
        have e : pick t.Q (k + 1) = pick t.Q k := by rw [pick, hQ]; rfl
        exact ih (k + 1) n s (by omega) (by omega) r (by rw [e]; exact h4) (by rw [e]; exact h6)
theorem v_begin99 {ρ : Type} {K : Wd → Option ρ} : ∀ d k n (s : Wd), k + d = 7 → d < n →
    ∃ s', fl_X0_begin_99 N K n (nI k) s = K s' ∧ (∀ j, k ≤ j → j < 7 → s'.1 8 j = nI (2 ^ j)) ∧ (∀ j, j < k → s'.1 8 j = s.1 8 j) ∧ (∀ p, p ≠ 8 → s'.1 p = s.1 p) ∧ s'.2 = s.2 := by
  intro d
  induction d with
  | zero =>
    intro k n s hk hn
    obtain ⟨n, rfl⟩ : ∃ e, n = e + 1 := ⟨n - 1, by omega⟩
    refine ⟨s, ?_, fun j h1 h2 => by omega, fun j _ => rfl, fun p _ => rfl, rfl⟩
    rw [fl_X0_begin_99]
    simp (disch := omega) only [lq7, nI_leI, if_pos]
  | succ d ih =>
    intro k n s hk hn
    obtain ⟨n, rfl⟩ : ∃ e, n = e + 1 := ⟨n - 1, by omega⟩
    obtain ⟨s', e1, g1, g2, g3, g4⟩ := ih (k + 1) n (sI s 8 k (nI (2 ^ k))) (by omega) (by omega)
    refine ⟨s', ?_, fun j h1 h2 => ?_, fun j hj => ?_, fun p hp => ?_, g4⟩
    · rw [fl_X0_begin_99]
      simp (disch := omega) only [lq7, lq0, nI_leI, if_neg, rR_n, v_setOf, bP_s, aI_n, nI_1]
      exact e1
    · by_cases e : j = k
      · subst e; rw [g2 j (by omega), sI_same]
      · exact g1 j (by omega) h2
    · rw [g2 j (by omega), sI_slot (by omega)]
    · rw [g3 p hp, sI_place hp]
theorem v_begin {σ : Wd} (r : RN σ t) (i : IN t) (hN : 100 ≤ N) {R : Nat} (hR : R < 128) (hRn : pc R ≤ pc t.nd) :
    ∃ σ', f_X0_begin N σ (nI R) = some σ' ∧ σ'.1 5 3 = nI R ∧ σ'.1 5 5 = nI (pc t.nd - pc R) ∧ σ'.1 5 4 = nI (pick t.Q 20).length ∧ (∀ j, j < (pick t.Q 20).length → σ'.1 6 j = nI ((pick t.Q 20).getD j 0)) ∧ RowT σ' 0 [] ∧ FrC σ σ' := by
  have h7 := i.nd7
  unfold f_X0_begin
  simp (disch := omega) only [wI, gI, sI_place, r.nd, v_bitCount, bP_s, pk_sub]
  obtain ⟨s1, e1, g1, g2, g3, g4, g5⟩ := v_begin31 (N := N) (K := fun s15 => fl_X0_begin_99 N (fun s19 => some s19) N 0 s15) i 20 0 N (sI (sI (sI σ 5 3 (nI R)) 5 5 (nI (pc t.nd - pc R))) 5 4 0) (by omega) (by omega)
    (r.same (fun p hp hp' => by rw [sI_place (by omega), sI_place (by omega), sI_place (by omega)])) (sI_same _ _ _ _) (fun j hj => absurd hj (Nat.not_lt_zero j))
  obtain ⟨s2, e2, f1, f2, f3, f4⟩ := v_begin99 (N := N) (K := fun s19 => some s19) 7 0 N s1 (by omega) (by omega)
  refine ⟨s2, ?_, ?_, ?_, ?_, fun j hj => ?_, fun j hj => ?_, ?_, fun p hp => ?_⟩
  · exact e1.trans e2
  · rw [f3 5 (by omega), g4 3 (by omega), sI_slot (by omega), sI_slot (by omega), sI_same]
  · rw [f3 5 (by omega), g4 5 (by omega), sI_slot (by omega), sI_same]
  · rw [f3 5 (by omega), g1]
  · rw [f3 6 (by omega), g2 j hj]
  · rw [cs_nil hj]; exact f1 j (by omega) hj
  · rw [f4, g5]; rfl
  · rw [f3 p (by omega), g3 p (by omega) (by omega), sI_place (by omega), sI_place (by omega), sI_place (by omega)]
theorem v_countWith {σ : Wd} (r : RN σ t) (i : IN t) (hN : 100 ≤ N) {R a b : Nat} (hR : R < 128) (hRn : pc R ≤ pc t.nd) (ha : a < 7) (hb : b < 7) :
    ∃ σ', f_X0_countWith N σ (nI R) (nI a) (nI b) = some (lN (cntC t R a b), σ') ∧ FrC σ σ' := by
  obtain ⟨s1, e1, h1, h2, h3, h4, h5, h6⟩ := v_begin r i hN hR hRn
  have hz : pc t.nd ≤ 7 := by rw [pc_upto (n := 7) i.nd7 (by omega)]; exact fb_ct_le _ 7
  have hlen := pick_len_le t.Q 20
  obtain ⟨s2, e2, g1, g2, g3⟩ := v_weigh (N := N) i hN (R := R) (z := pc t.nd - pc R) (m := (pick t.Q 20).length) (a := a) (b := b) (V := fun j => (pick t.Q 20).getD j 0) hR (by omega)
    ⟨hlen, fun j hj => by
      have := mem_pick.mp (getD_mem hj)
      refine ⟨this.1, ?_⟩
      have h := this.2
      unfold Nt.Q at h
      rw [Bool.and_eq_true] at h
      exact h.1⟩ ha hb (pc t.nd - pc R) 10 0 (pick t.Q 20).length [] (sI (sI s1 5 6 (nI a)) 5 7 (nI b)) (by omega) (by omega) (Nat.le_refl _)
    ⟨(h6.RN r).same (fun p hp hp' => by rw [sI_place (by omega), sI_place (by omega)]), by rw [sI_slot (by omega), sI_slot (by omega)]; exact h1, by rw [sI_slot (by omega), sI_slot (by omega)]; exact h2,
      by rw [sI_slot (by omega), sI_same], sI_same _ _ _ _, fun j hj => by rw [sI_place (by omega), sI_place (by omega)]; exact h4 j hj⟩
    (h5.same (by rw [sI_place (by omega), sI_place (by omega)]))
  refine ⟨s2, ?_, ?_, fun p hp => ?_⟩
  · unfold f_X0_countWith
    rw [e1, bP_s]
    simp (disch := omega) only [wI, gI, sI_slot, h3]
    rw [lq0, e2, bS_s]
    congr 2
    congr 1
    rw [wgh_eq]
    unfold cntC
    rw [sumW_drop (p := t.Q) (q := t.P) 20 _ (fun j _ hj => ?_) (fun j _ hq hp S hS => ?_), sumW_pick]
    · refine sumS_congr _ _ _ (fun S hS => ?_)
      have hS7 : ∀ e ∈ S, e.1 < 7 ∧ e.2.1 < 7 := fun e he => by
        obtain ⟨j, _, rfl⟩ := hS.2 e he
        exact ⟨i.fb _, i.sb _⟩
      refine ite_iC ?_
      rw [Vd_ok (fun e he => (hS7 e he).2), List.append_nil, cs_bit, Cn_reverse]
      constructor
      · rintro ⟨q1, ⟨q2, q3⟩, -, q4⟩
        exact ⟨by omega, q2, q3, q4⟩
      · rintro ⟨q1, q2, q3, q4⟩
        exact ⟨by omega, ⟨q2, q3⟩, hb, q4⟩
    · unfold Nt.Q at hj; rw [Bool.and_eq_true] at hj; exact hj.1
    · refine iC_neg (fun h => Ac_ring hS ?_ h.2.1)
      unfold Nt.Q at hp
      unfold Nt.P at hq
      rw [hq] at hp
      simpa [Nt.g] using hp
  · rw [g3]; exact h6.1
  · rcases hp with hp | hp
    · rw [g1 p (by omega), sI_place (by omega), sI_place (by omega)]; exact h6.2 p (Or.inl hp)
    · rw [g2 p hp, sI_place (by omega), sI_place (by omega)]; exact h6.2 p (Or.inr hp)
end begin'
