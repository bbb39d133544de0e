/-! MOVES: the class's plans. -/
/-- a set by what is in it -/
def stB (p : Nat → Bool) : Nat → Nat
  | 0 => 0
  | n + 1 => if p n then stB p n ||| 2 ^ n else stB p n
theorem stB_bit {p : Nat → Bool} : ∀ {n j : Nat}, (stB p n).testBit j = true ↔ j < n ∧ p j = true
  | 0, j => by simp [stB]
  | n + 1, j => by
    unfold stB
    cases h : p n
    · simp only [Bool.false_eq_true, if_false]
      rw [stB_bit]
      refine ⟨fun q => ⟨by omega, q.2⟩, fun q => ⟨Nat.lt_of_le_of_ne (by omega) (fun e => ?_), q.2⟩⟩
      rw [e, h] at q; exact absurd q.2 (by decide)
    · simp only [if_true]
      rw [or_bit, stB_bit]
      constructor
      · rintro (q | rfl)
        · exact ⟨by omega, q.2⟩
        · exact ⟨by omega, h⟩
      · intro q
        rcases Nat.lt_or_ge j n with z | z
        · exact Or.inl ⟨z, q.2⟩
        · exact Or.inr (by omega)
theorem stB_lt (p : Nat → Bool) (n : Nat) : stB p n < 2 ^ n := lt_of_bits (fun _ h => (stB_bit.mp h).1)
/-- the wires at a node -/
def atB (t : Nt) (v w : Nat) : Bool := t.wr.testBit w && (t.f w == v || t.s w == v)
def WA (t : Nt) (v : Nat) : Nat := stB (atB t v) 20
def la (t : Nt) (v : Nat) : List Nat := pick (atB t v) 20
/-- the other end of the wire at a place of these -/
def fa (t : Nt) (v j : Nat) : Nat := t.far ((la t v).getD j 0) v
theorem pick_ct (p : Nat → Bool) : ∀ m, (pick p m).length = fb_ct p m
  | 0 => rfl
  | m + 1 => by
    rw [fb_ct_succ, ← pick_ct p m, pick]
    cases p m
    · rfl
    · simp
theorem pc_WA (t : Nt) (v : Nat) : pc (WA t v) = (la t v).length := by
  unfold pc la
  rw [pick_ct]
  refine fb_ct_cong (fun k hk => ?_)
  show (WA t v).testBit k = atB t v k
  apply Bool.eq_iff_iff.mpr
  unfold WA
  rw [stB_bit]
  exact ⟨fun h => h.2, fun h => ⟨hk, h⟩⟩
theorem pick_at {p : Nat → Bool} {k : Nat} (hp : p k = true) : ∀ {m : Nat}, k < m → (pick p m).getD (pick p k).length 0 = k ∧ (pick p k).length < (pick p m).length
  | 0, h => absurd h (Nat.not_lt_zero k)
  | m + 1, h => by
    rcases Nat.lt_or_ge k m with q | q
    · obtain ⟨h1, h2⟩ := pick_at hp q
      have e1 : pick p (m + 1) = if p m then pick p m ++ [m] else pick p m := rfl
      rw [e1]
      cases hm : p m
      · simp only [Bool.false_eq_true, if_false]; exact ⟨h1, h2⟩
      · simp only [if_true]
        rw [getD_snoc h2, List.length_append]
        exact ⟨h1, by omega⟩
    · have e : m = k := by omega
      subst e
      have e1 : pick p (m + 1) = pick p m ++ [m] := by rw [pick, if_pos hp]
      rw [e1, getD_last, List.length_append]
      exact ⟨rfl, by simp⟩
theorem la_in {t : Nt} {v j : Nat} (h : j < (la t v).length) : (la t v).getD j 0 < 20 ∧ t.wr.testBit ((la t v).getD j 0) = true ∧ (t.f ((la t v).getD j 0) = v ∨ t.s ((la t v).getD j 0) = v) := by
  obtain ⟨h1, h2⟩ := mem_pick.mp (getD_mem (show j < (pick (atB t v) 20).length from h))
  unfold atB at h2
  rw [Bool.and_eq_true, Bool.or_eq_true, beq_iff_eq, beq_iff_eq] at h2
  exact ⟨h1, h2.1, h2.2⟩
/-- nodes met, as a set -/
def orF (f : Nat → Nat) (v : Nat) : Nat → Nat
  | 0 => 2 ^ v
  | d + 1 => orF f v d ||| 2 ^ f d
theorem orF_lt {f : Nat → Nat} {v : Nat} (hv : v < 7) : ∀ {d : Nat}, (∀ j, j < d → f j < 7) → orF f v d < 128
  | 0, _ => Nat.pow_lt_pow_right (n := 7) (by decide) hv
  | d + 1, h => or_lt (n := 7) (orF_lt hv (fun j hj => h j (by omega))) (Nat.pow_lt_pow_right (by decide) (h d (by omega)))
/-- all unlike -/
def mdB (f : Nat → Nat) (v d : Nat) : Bool := al (fun i => !(f i == v) && al (fun j => !(f j == f i)) i 0) d 0
theorem md_1 : ∀ v a : Fin 7, (pc (2 ^ v.val ||| 2 ^ a.val) == 2) = !(a.val == v.val) := by decide +kernel
theorem md_2 : ∀ v a b : Fin 7, (pc ((2 ^ v.val ||| 2 ^ a.val) ||| 2 ^ b.val) == 3) = (!(a.val == v.val) && (!(b.val == v.val) && !(a.val == b.val))) := by decide +kernel
theorem md_3 : ∀ v a b c : Fin 7, (pc (((2 ^ v.val ||| 2 ^ a.val) ||| 2 ^ b.val) ||| 2 ^ c.val) == 4) = (!(a.val == v.val) && ((!(b.val == v.val) && !(a.val == b.val)) && (!(c.val == v.val) && (!(a.val == c.val) && !(b.val == c.val))))) := by decide +kernel
theorem md_eq {f : Nat → Nat} {v d : Nat} (hv : v < 7) (h1 : 1 ≤ d) (h3 : d ≤ 3) (hf : ∀ j, j < d → f j < 7) : (pc (orF f v d) == d + 1) = mdB f v d := by
  rcases (show d = 1 ∨ d = 2 ∨ d = 3 by omega) with rfl | rfl | rfl
  · refine (md_1 ⟨v, hv⟩ ⟨f 0, hf 0 (by omega)⟩).trans ?_
    simp [mdB, al]
  · refine (md_2 ⟨v, hv⟩ ⟨f 0, hf 0 (by omega)⟩ ⟨f 1, hf 1 (by omega)⟩).trans ?_
    simp [mdB, al]
  · refine (md_3 ⟨v, hv⟩ ⟨f 0, hf 0 (by omega)⟩ ⟨f 1, hf 1 (by omega)⟩ ⟨f 2, hf 2 (by omega)⟩).trans ?_
    simp [mdB, al]
/-- an inner node with just so many wires, to unlike other nodes -/
def inn (t : Nt) (v d : Nat) : Bool := !t.ed.testBit v && ((la t v).length == d && mdB (fa t v) v d)
def whl (u l : Nat) : Bool := decide (u % l = 0 ∧ 1 ≤ u / l ∧ u / l ≤ 60)
section plans
variable {N : Nat} {σ τ : Wd} {t : Nt}
theorem far_lt (i : IN t) (w v : Nat) : t.far w v < 7 := by
  unfold Nt.far
  split
  · exact i.sb w
  · exact i.fb w
theorem v_begin5 : ∃ s, f_X5_begin N σ = some s ∧ s.1 29 0 = 0 ∧ PS s (Mv.mk 0 0 none 0 []) ∧ FrP σ s := by
  refine ⟨sI (sI (sI (sI (sI (sI (sI σ 29 0 0) 29 1 0) 29 2 0) 29 3 (-1)) 29 4 0) 29 5 0) 29 6 0, rfl, ?_, ⟨?_, ?_, ⟨fun _ => ?_, fun x hx => absurd hx (by simp [Mv.ch, Mv.mk])⟩, ?_, ?_, fun j hj => absurd hj (Nat.not_lt_zero j)⟩, rfl, fun p hp => ?_⟩
  · simp (disch := omega) only [sI_same, sI_slot]
  · simp (disch := omega) only [sI_same, sI_slot]; rfl
  · simp (disch := omega) only [sI_same, sI_slot]; rfl
  · simp (disch := omega) only [sI_same, sI_slot]
  · simp (disch := omega) only [sI_same, sI_slot]; rfl
  · simp (disch := omega) only [sI_same, sI_slot]; rfl
  · simp (disch := omega) only [sI_place]
theorem v_wiresAt (r : RN σ t) (i : IN t) (hN : 100 ≤ N) {v : Nat} (hv : v < 7) : f_X4_wiresAt N σ (nI v) = some (nI (WA t v)) := by
  have h20 := i.wr20
  have go : ∀ d k n, k + d = 20 → d < n → fl_X4_wiresAt_4 N σ (nI v) (fun v7 => some v7) n (nI (stB (atB t v) k)) (nI k) = some (nI (WA t v)) := by
    intro d
    induction d with
    | zero =>
      intro k n hk hn
      obtain ⟨n, rfl⟩ : ∃ m, n = m + 1 := ⟨n - 1, by omega⟩
      rw [fl_X4_wiresAt_4, show k = 20 by omega, lq20, if_pos (nI_le (Nat.le_refl _) (by omega))]
      rfl
    | succ d ih =>
      intro k n hk hn
      obtain ⟨n, rfl⟩ : ∃ m, n = m + 1 := ⟨n - 1, by omega⟩
      have hf := i.fb k
      have hs := i.sb k
      have ih' := ih (k + 1) n (by omega) (by omega)
      have e0 : stB (atB t v) (k + 1) = if atB t v k = true then stB (atB t v) k ||| 2 ^ k else stB (atB t v) k := rfl
      rw [e0] at ih'
      rw [fl_X4_wiresAt_4]
      simp (disch := omega) only [lq20, nI_leI, if_neg, jn_e, nI_1]
      rw [v_hasWire r i, bP_s, if_bI0, inS_n (by omega)]
      simp (disch := omega) only [rI_n, r.f k (by omega), r.s k (by omega), v_setOf, bP_s, lI, fa_or, nI_eq]
      unfold atB at ih' ⊢
      cases hw : t.wr.testBit k
      · rw [hw, Bool.false_and, if_neg (by decide)] at ih'
        exact ih'
      · rw [hw, Bool.true_and] at ih'
        simp only [if_true]
        by_cases q : t.f k = v
        · rw [if_pos q]
          rw [beq_iff_eq.mpr q, Bool.true_or, if_pos rfl] at ih'
          exact ih'
        · rw [if_neg q]
          rw [beq_false_of_ne q, Bool.false_or] at ih'
          by_cases q2 : t.s k = v
          · rw [if_pos q2]
            rw [beq_iff_eq.mpr q2, if_pos rfl] at ih'
            exact ih'
          · rw [if_neg q2]
            rw [beq_false_of_ne q2, if_neg (by decide)] at ih'
            exact ih'
  exact go 20 0 N (by omega) (by omega)
theorem v_without42 {ρ : Type} {K : Int32 → Wd → Option ρ} (i : IN t) {v d : Nat} (hv : v < 7) (hd : (la t v).length = d) (hd3 : d ≤ 3) {x2 : Int32} : ∀ e k n (s : Wd), k + e = 20 → e < n → RN s t → (∀ j, j < (pick (atB t v) k).length → s.1 33 j = nI ((la t v).getD j 0)) →
    ∃ s', fl_X3_planWithout_42 N (nI v) x2 (nI (WA t v)) K n (nI (orF (fa t v) v (pick (atB t v) k).length)) (nI (pick (atB t v) k).length) (nI k) s = K (nI (orF (fa t v) v d)) s' ∧ (∀ j, j < d → s'.1 33 j = nI ((la t v).getD j 0)) ∧ (∀ p, p ≠ 33 → s'.1 p = s.1 p) ∧ s'.2 = s.2 := by
  have hWA : WA t v < 2 ^ 20 := stB_lt _ 20
  intro e
  induction e with
  | zero =>
    intro k n s hk hn r h
    obtain ⟨n, rfl⟩ : ∃ m, n = m + 1 := ⟨n - 1, by omega⟩
    have hk : k = 20 := by omega
    subst hk
    have hl : (pick (atB t v) 20).length = d := hd
    refine ⟨s, ?_, fun j hj => h j (by omega), fun p _ => rfl, rfl⟩
    rw [fl_X3_planWithout_42, lq20, if_pos (nI_le (Nat.le_refl _) (by omega)), hl]
  | succ e ih =>
    intro k n s hk hn r h
    obtain ⟨n, rfl⟩ : ∃ m, n = m + 1 := ⟨n - 1, by omega⟩
    have hb : (WA t v).testBit k = atB t v k := by
      apply Bool.eq_iff_iff.mpr
      unfold WA
      rw [stB_bit]
      exact ⟨fun h => h.2, fun h => ⟨by omega, h⟩⟩
    rw [fl_X3_planWithout_42]
    simp (disch := omega) only [lq20, nI_leI, if_neg, jn_e, nI_1, v_isIn, bP_s, if_bI0, hb]
    cases hp : atB t v k
    · have e1 : pick (atB t v) (k + 1) = pick (atB t v) k := by rw [pick, hp]; rfl
      have := ih (k + 1) n s (by omega) (by omega) r (by rw [e1]; exact h)
      rw [e1] at this
      simpa using this
    · have e1 : pick (atB t v) (k + 1) = pick (atB t v) k ++ [k] := by rw [pick, hp]; rfl
      obtain ⟨p1, p2⟩ := pick_at (p := atB t v) hp (show k < 20 by omega)
      have hl : (pick (atB t v) 20).length = d := hd
      have hfar : t.far k v = fa t v (pick (atB t v) k).length := by
        unfold fa la
        rw [p1]
      have hlen : (pick (atB t v) k ++ [k]).length = (pick (atB t v) k).length + 1 := by simp
      obtain ⟨s', e2, g1, g2, g3⟩ := ih (k + 1) n (sI s 33 (pick (atB t v) k).length (nI k)) (by omega) (by omega) (r.same (fun p _ hp => sI_place (by omega))) (fun j hj => by
        rw [e1, hlen] at hj
        by_cases q : j = (pick (atB t v) k).length
        · rw [q, sI_same]
          unfold la
          rw [p1]
        · rw [sI_slot q]; exact h j (by omega))
      rw [e1, hlen] at e2
      refine ⟨s', ?_, g1, fun p hp => by rw [g2 p hp, sI_place hp], g3⟩
      simp only [if_true]
      rw [lq3, if_neg (nI_ge (by omega) (by omega)), aI_n (by omega) (by omega), v_farEndOf (r.same (fun p _ hp => sI_place (by omega))) i (by omega) hv, bP_s, v_setOf (by have := far_lt i k v; omega), bP_s, hfar]
      simp only [lI, fa_or]
      exact e2
/-- planWithout -/
theorem v_without (r : RN σ t) (i : IN t) (hN : 100 ≤ N) {v d : Nat} (hv : v < 7) (hd1 : 1 ≤ d) (hd3 : d ≤ 3) (h0 : σ.1 29 0 = 0) (ps : PS σ (Mv.mk 0 0 none 0 [])) :
    ∃ σ', f_X3_planWithout N σ (nI v) (nI d) = some (bI (inn t v d), σ') ∧ FrP σ σ' ∧ σ'.1 29 0 = bI (inn t v d) ∧ (inn t v d = true → PS σ' (Mv.mk (2 ^ v) (WA t v) none 0 []) ∧ ∀ j, j < d → σ'.1 33 j = nI ((la t v).getD j 0)) := by
  have hWA : WA t v < 2 ^ 20 := stB_lt _ 20
  have hle := pick_len_le (atB t v) 20
  have hle' : (la t v).length ≤ 20 := hle
  unfold f_X3_planWithout
  rw [v_wiresAt r i hN hv, bP_s, v_hasEdge r i, bP_s, if_bI0, inS_n (by omega), v_bitCount hWA, pc_WA, bP_s]
  have nope : inn t v d = false → ∃ σ', (some (0, σ) : Option (Int32 × Wd)) = some (bI (inn t v d), σ') ∧ FrP σ σ' ∧ σ'.1 29 0 = bI (inn t v d) ∧ (inn t v d = true → PS σ' (Mv.mk (2 ^ v) (WA t v) none 0 []) ∧ ∀ j, j < d → σ'.1 33 j = nI ((la t v).getD j 0)) := fun h => by
    rw [h]
    exact ⟨σ, rfl, FrP.rfl' σ, h0, fun q => absurd q (by decide)⟩
  cases he : t.ed.testBit v
  · simp only [Bool.false_eq_true, if_false]
    by_cases hl : (la t v).length = d
    · rw [if_pos (by rw [hl]), v_setOf (by omega), bP_s]
      have e0 : orF (fa t v) v (pick (atB t v) 0).length = 2 ^ v := rfl
      have l0 : (pick (atB t v) 0).length = 0 := rfl
      have hfa : ∀ j, j < d → fa t v j < 7 := fun j _ => far_lt i _ _
      have hor := orF_lt hv hfa
      have hinn : inn t v d = (pc (orF (fa t v) v d) == d + 1) := by
        unfold inn
        rw [he, beq_iff_eq.mpr hl, md_eq hv hd1 hd3 hfa]; rfl
      obtain ⟨s1, e1, g1, g2, g3⟩ := v_without42 (N := N) (K := fun v13 s14 =>
        bP (some (nI (2 ^ v))) fun v15 =>
        wI s14 29 1 v15 fun s16 =>
        wI s16 29 2 (nI (WA t v)) fun s17 =>
        bP (f_J6_bitCount_0f7a4 N v13) fun v18 =>
        jn (fun (v19 : Int32) => ((
          zb v19 (wI s17 29 0 v19 fun s20 =>
          gI s20 29 0 fun v21 =>
          zb v21 (some (v21, s20)))) : Option (Int32 × Wd))) fun j143 =>
        if v18 = (nI d + 1) then (
          j143 1)
        else (
          j143 0)) i hv hl hd3 (x2 := nI d) 20 0 N σ (by omega) (by omega) r (fun j hj => absurd hj (Nat.not_lt_zero j))
      rw [e0, l0] at e1
      have fr1 : FrP σ s1 := ⟨g3, fun p hp => g2 p (by omega)⟩
      have hpc : pc (orF (fa t v) v d) ≤ 20 := fb_ct_le _ 20
      have fin : (bP (some (nI (2 ^ v))) fun v15 =>
        wI s1 29 1 v15 fun s16 =>
        wI s16 29 2 (nI (WA t v)) fun s17 =>
        bP (f_J6_bitCount_0f7a4 N (nI (orF (fa t v) v d))) fun v18 =>
        jn (fun (v19 : Int32) => ((
          zb v19 (wI s17 29 0 v19 fun s20 =>
          gI s20 29 0 fun v21 =>
          zb v21 (some (v21, s20)))) : Option (Int32 × Wd))) fun j143 =>
        if v18 = (nI d + 1) then (
          j143 1)
        else (
          j143 0)) = some (bI (inn t v d), sI (sI (sI s1 29 1 (nI (2 ^ v))) 29 2 (nI (WA t v))) 29 0 (bI (inn t v d))) := by
        rw [bP_s]
        simp only [wI, jn_e, gI, sI_same]
        rw [v_bitCount (by omega), bP_s, nI_1, hinn]
        by_cases q : pc (orF (fa t v) v d) = d + 1
        · rw [if_pos (by rw [q]), beq_iff_eq.mpr q]; rfl
        · rw [if_neg (fun z => q ((nI_eq (by omega) (by omega)).mp z)), beq_false_of_ne q]; rfl
      refine ⟨_, Eq.trans e1 fin, fr1.trans ((FrP.put (by omega) (by omega)).trans ((FrP.put (by omega) (by omega)).trans (FrP.put (by omega) (by omega)))), sI_same _ _ _ _, fun hi => ⟨⟨?_, ?_, ⟨fun _ => ?_, fun x hx => absurd hx (by simp [Mv.ch, Mv.mk])⟩, ?_, ?_, fun j hj => absurd hj (Nat.not_lt_zero j)⟩, fun j hj => ?_⟩⟩
      · simp (disch := omega) only [sI_same, sI_slot]; rfl
      · simp (disch := omega) only [sI_same, sI_slot]; rfl
      · simp (disch := omega) only [sI_same, sI_slot]; rw [g2 29 (by omega)]; exact ps.2.2.1.1 rfl
      · simp (disch := omega) only [sI_same, sI_slot]; rw [g2 29 (by omega)]; exact ps.2.2.2.1
      · simp (disch := omega) only [sI_same, sI_slot]; rw [g2 29 (by omega)]; exact ps.2.2.2.2.1
      · simp (disch := omega) only [sI_place]; exact g1 j hj
    · rw [if_neg (fun z => hl ((nI_eq (by omega) (by omega)).mp z))]
      exact nope (by unfold inn; rw [he, beq_false_of_ne hl]; rfl)
  · simp only [if_true]
    exact nope (by unfold inn; rw [he]; rfl)
/-- one wire that comes -/
theorem v_bring {ng wg nn : Nat} {ch : Option (Nat × Nat)} {L : List (Nat × Nat × Nat)} (hL : L.length < 3) (ps : PS σ (Mv.mk ng wg ch nn L)) {a b u l : Nat} (hu : u < 2 ^ 31) (hl0 : 0 < l) (hl : l < 2 ^ 31) :
    ∃ σ', f_X5_bring N σ (nI a) (nI b) (nI u) (nI l) = some σ' ∧ PS σ' (Mv.mk ng wg ch nn (if whl u l = true then L ++ [(a, b, u / l)] else L)) ∧ σ'.1 29 0 = (if whl u l = true then σ.1 29 0 else 0) ∧ FrP σ σ' ∧ σ'.1 33 = σ.1 33 := by
  obtain ⟨q1, q2, q3, q4, q5, q6⟩ := ps
  have q5' : σ.1 29 6 = nI L.length := q5
  have hdiv : u / l ≤ u := Nat.div_le_self _ _
  have no : whl u l = false → ∃ σ', (some (sI σ 29 0 0) : Option Wd) = some σ' ∧ PS σ' (Mv.mk ng wg ch nn (if whl u l = true then L ++ [(a, b, u / l)] else L)) ∧ σ'.1 29 0 = (if whl u l = true then σ.1 29 0 else 0) ∧ FrP σ σ' ∧ σ'.1 33 = σ.1 33 := fun h => by
    rw [h]
    refine ⟨sI σ 29 0 0, rfl, ⟨?_, ?_, ⟨fun h => ?_, fun x hx => ?_⟩, ?_, ?_, fun j hj => ?_⟩, sI_same _ _ _ _, FrP.put (by omega) (by omega), sI_place (by omega)⟩
    · rw [sI_slot (by omega)]; exact q1
    · rw [sI_slot (by omega)]; exact q2
    · rw [sI_slot (by omega)]; exact q3.1 h
    · rw [sI_slot (by omega), sI_slot (by omega)]; exact q3.2 x hx
    · rw [sI_slot (by omega)]; exact q4
    · rw [sI_slot (by omega)]; exact q5
    · rw [sI_place (by omega), sI_place (by omega), sI_place (by omega)]; exact q6 j hj
  unfold f_X5_bring
  simp only [jn_e, wI]
  rw [show (zb 0 (some (sI σ 29 0 0)) : Option Wd) = some (sI σ 29 0 0) from rfl, if_neg (nI_nle hl0 hl), mIn hu hl0 hl]
  by_cases h1 : u % l = 0
  · rw [if_pos (by rw [h1]; rfl), dIn hu hl0 hl, v_isCond, bP_s, if_bI0]
    by_cases h2 : 1 ≤ u / l
    · by_cases h3 : u / l ≤ 60
      · have hw : whl u l = true := decide_eq_true ⟨h1, h2, h3⟩
        rw [decide_eq_false (show ¬ nI (u / l) < 1 from nI_nlt (b := 1) h2 (by omega)), decide_eq_false (show ¬ (60 : Int32) < nI (u / l) from nI_nlt (a := 60) h3 (by omega)), if_pos (show (!false && !false) = true from rfl)]
        simp (disch := omega) only [gI, q5', lq3, nI_ltI, if_pos, aI_n, sI_place, dIn, nI_1]
        refine ⟨_, rfl, ⟨?_, ?_, ⟨fun h => ?_, fun x hx => ?_⟩, ?_, ?_, fun j hj => ?_⟩, ?_, (FrP.put (by omega) (by omega)).trans ((FrP.put (by omega) (by omega)).trans ((FrP.put (by omega) (by omega)).trans (FrP.put (by omega) (by omega)))), ?_⟩
        · simp (disch := omega) only [sI_slot, sI_place]; exact q1
        · simp (disch := omega) only [sI_slot, sI_place]; exact q2
        · simp (disch := omega) only [sI_slot, sI_place]; exact q3.1 h
        · simp (disch := omega) only [sI_slot, sI_place]; exact q3.2 x hx
        · simp (disch := omega) only [sI_slot, sI_place]; exact q4
        · rw [sI_same]
          show _ = nI (L ++ [(a, b, u / l)]).length
          rw [List.length_append]; rfl
        · have hj' : j < (L ++ [(a, b, u / l)]).length := hj
          rw [List.length_append] at hj'
          show _ = nI ((L ++ [(a, b, u / l)]).getD j (0, 0, 0)).1 ∧ _ = nI ((L ++ [(a, b, u / l)]).getD j (0, 0, 0)).2.1 ∧ _ = nI ((L ++ [(a, b, u / l)]).getD j (0, 0, 0)).2.2
          by_cases e : j = L.length
          · subst e
            have eg : (L ++ [(a, b, u / l)]).getD L.length (0, 0, 0) = (a, b, u / l) := by
              rw [List.getD_eq_getElem?_getD, List.getElem?_append_right (Nat.le_refl _)]; simp
            rw [eg]
            refine ⟨?_, ?_, ?_⟩
            · simp (disch := omega) only [sI_same, sI_place]
            · simp (disch := omega) only [sI_same, sI_place]
            · simp (disch := omega) only [sI_same, sI_place]
          · have hjl : j < L.length := by simp at hj'; omega
            have eg : (L ++ [(a, b, u / l)]).getD j (0, 0, 0) = L.getD j (0, 0, 0) := by
              rw [List.getD_eq_getElem?_getD, List.getD_eq_getElem?_getD, List.getElem?_append_left hjl]
            rw [eg]
            obtain ⟨z1, z2, z3⟩ := q6 j hjl
            refine ⟨?_, ?_, ?_⟩
            · simp (disch := omega) only [sI_place, sI_slot]; exact z1
            · simp (disch := omega) only [sI_place, sI_slot]; exact z2
            · simp (disch := omega) only [sI_place, sI_slot]; exact z3
        · simp (disch := omega) only [sI_slot, sI_place, if_true]
        · simp (disch := omega) only [sI_place]
      · rw [decide_eq_true (show (60 : Int32) < nI (u / l) from nI_lt (a := 60) (by omega) (by omega)), Bool.not_true, Bool.and_false, if_neg (by decide)]
        exact no (decide_eq_false (fun z => h3 z.2.2))
    · rw [decide_eq_true (show nI (u / l) < 1 from nI_lt (b := 1) (by omega) (by omega)), Bool.not_true, Bool.false_and, if_neg (by decide)]
      exact no (decide_eq_false (fun z => h2 z.2.1))
  · rw [if_neg (show ¬ nI (u % l) = 0 from fun z => h1 ((nI_eq (b := 0) (by have := Nat.mod_lt u hl0; omega) (by omega)).mp z))]
    exact no (decide_eq_false (fun z => h1 z.1))
end plans
