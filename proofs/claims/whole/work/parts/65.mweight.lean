/-! THE REFERENCE: its cells as numbers, and the weight of a set of wires. -/
abbrev RM (τ : Wd) (t : Nt) : Prop := (τ.1 0 2 = nI t.nd) ∧ (τ.1 0 3 = nI t.ed) ∧ (τ.1 0 5 = nI t.wr) ∧ (τ.1 0 1 = nI t.nN) ∧ (τ.1 0 4 = nI t.nW) ∧ (∀ w, w < 20 → τ.1 1 w = nI (t.f w)) ∧ (∀ w, w < 20 → τ.1 2 w = nI (t.s w)) ∧ (∀ w, w < 20 → τ.1 3 w = nI (t.c w))
theorem RM.nd {τ : Wd} {t : Nt} (h : RM τ t) : τ.1 0 2 = nI t.nd := h.1
theorem RM.ed {τ : Wd} {t : Nt} (h : RM τ t) : τ.1 0 3 = nI t.ed := h.2.1
theorem RM.wr {τ : Wd} {t : Nt} (h : RM τ t) : τ.1 0 5 = nI t.wr := h.2.2.1
theorem RM.nN {τ : Wd} {t : Nt} (h : RM τ t) : τ.1 0 1 = nI t.nN := h.2.2.2.1
theorem RM.nW {τ : Wd} {t : Nt} (h : RM τ t) : τ.1 0 4 = nI t.nW := h.2.2.2.2.1
theorem RM.f {τ : Wd} {t : Nt} (h : RM τ t) : ∀ w, w < 20 → τ.1 1 w = nI (t.f w) := h.2.2.2.2.2.1
theorem RM.s {τ : Wd} {t : Nt} (h : RM τ t) : ∀ w, w < 20 → τ.1 2 w = nI (t.s w) := h.2.2.2.2.2.2.1
theorem RM.c {τ : Wd} {t : Nt} (h : RM τ t) : ∀ w, w < 20 → τ.1 3 w = nI (t.c w) := h.2.2.2.2.2.2.2
/-- only labels and their counts change -/
def FrM (τ τ' : Wd) : Prop := τ'.2 = τ.2 ∧ ∀ p, p ≠ 6 → p ≠ 7 → τ'.1 p = τ.1 p
theorem FrM.trans {σ σ' σ'' : Wd} (h : FrM σ σ') (g : FrM σ' σ'') : FrM σ σ'' := ⟨g.1.trans h.1, fun p hp hq => (g.2 p hp hq).trans (h.2 p hp hq)⟩
theorem FrM.rfl' (σ : Wd) : FrM σ σ := ⟨rfl, fun _ _ _ => rfl⟩
theorem RM.same {τ τ' : Wd} {t : Nt} (h : RM τ t) (h1 : ∀ p, p ≤ 3 → τ'.1 p = τ.1 p) : RM τ' t :=
  ⟨by rw [h1 0 (by omega)]; exact h.nd, by rw [h1 0 (by omega)]; exact h.ed, by rw [h1 0 (by omega)]; exact h.wr, by rw [h1 0 (by omega)]; exact h.nN, by rw [h1 0 (by omega)]; exact h.nW,
   by rw [h1 1 (by omega)]; exact h.f, by rw [h1 2 (by omega)]; exact h.s, by rw [h1 3 (by omega)]; exact h.c⟩
theorem FrM.RM {τ τ' : Wd} {t : Nt} (h : FrM τ τ') (r : RM τ t) : RM τ' t := r.same (fun p hp => h.2 p (by omega) (by omega))
theorem lN_le0 {n : Nat} (h : n < 2 ^ 63) : (lN n ≤ 0) ↔ n = 0 := by
  rw [Int64.le_iff_toInt_le]
  show (Int64.ofNat n).toInt ≤ (0 : Int64).toInt ↔ _
  rw [Int64.toInt_ofNat_of_lt h, show (0 : Int64).toInt = 0 from rfl]
  omega
/-- the wires of a set, the highest first -/
def lst (t : Nt) (S : Nat) : Nat → List Ed
  | 0 => []
  | k + 1 => if S.testBit k then t.g k :: lst t S k else lst t S k
theorem lst_end {t : Nt} {S : Nat} : ∀ {m k : Nat}, k ≤ m → ∃ P, lst t S m = P ++ lst t S k
  | 0, k, h => ⟨[], by rw [show k = 0 by omega]; rfl⟩
  | m + 1, k, h => by
    rcases Nat.lt_or_ge m k with q | q
    · exact ⟨[], by rw [show k = m + 1 by omega]; rfl⟩
    · obtain ⟨P, hP⟩ := lst_end (t := t) (S := S) q
      have e : lst t S (m + 1) = if S.testBit m then t.g m :: lst t S m else lst t S m := rfl
      rw [e]
      split
      · exact ⟨t.g m :: P, by rw [hP]; rfl⟩
      · exact ⟨P, hP⟩
theorem lst_mem {t : Nt} {S : Nat} {e : Ed} : ∀ {m : Nat}, e ∈ lst t S m → ∃ w, w < m ∧ S.testBit w = true ∧ e = t.g w
  | 0, h => nomatch h
  | m + 1, h => by
    unfold lst at h
    split at h
    · rename_i hb
      rcases List.mem_cons.mp h with rfl | h
      · exact ⟨m, by omega, hb, rfl⟩
      · obtain ⟨w, h1, h2, h3⟩ := lst_mem h; exact ⟨w, by omega, h2, h3⟩
    · obtain ⟨w, h1, h2, h3⟩ := lst_mem h; exact ⟨w, by omega, h2, h3⟩
theorem wt_bound : ∀ (S : List Ed), (∀ e ∈ S, 1 ≤ e.2.2 ∧ e.2.2 ≤ 60) → 1 ≤ wt S ∧ wt S ≤ 60 ^ S.length
  | [], _ => ⟨Nat.le_refl _, Nat.le_refl _⟩
  | e :: S, h => by
    obtain ⟨h1, h2⟩ := wt_bound S (fun x hx => h x (List.mem_cons_of_mem _ hx))
    obtain ⟨h3, h4⟩ := h e List.mem_cons_self
    refine ⟨Nat.mul_le_mul h3 h1, ?_⟩
    show e.2.2 * wt S ≤ 60 ^ (S.length + 1)
    rw [Nat.pow_succ, Nat.mul_comm (60 ^ S.length)]
    exact Nat.mul_le_mul h4 h2
theorem ac_len {S : List Ed} (h : Ac S) (hS : ∀ e ∈ S, e.1 < 7 ∧ e.2.1 < 7) : S.length ≤ 6 := by
  have := ac_le S [0] (List.range 7) h (by simp) (by simp) (fun x hx y hy _ => by simp at hx hy; rw [hx, hy]) (fun e he => by simpa using hS e he)
  simp at this
  omega
theorem wt_ac {S : List Ed} (h : Ac S) (hS : ∀ e ∈ S, e.1 < 7 ∧ e.2.1 < 7) (hc : ∀ e ∈ S, 1 ≤ e.2.2 ∧ e.2.2 ≤ 60) : 1 ≤ wt S ∧ wt S ≤ 60 ^ 6 := by
  have h1 := wt_bound S hc
  exact ⟨h1.1, Nat.le_trans h1.2 (Nat.pow_le_pow_right (by decide) (ac_len h hS))⟩
theorem mrg_iff {x y : Nat} {lab : Nat → Nat} (i j : Nat) : (mrg x y lab i = mrg x y lab j) ↔ (lab i = lab j ∨ (lab i = x ∧ lab j = y) ∨ (lab i = y ∧ lab j = x)) := by
  by_cases hi : lab i = x <;> by_cases hj : lab j = x
  · rw [mrg_pos hi, mrg_pos hj, hi, hj]; simp
  · rw [mrg_pos hi, mrg_neg hj]
    constructor
    · intro q; exact Or.inr (Or.inl ⟨hi, q.symm⟩)
    · rintro (q | ⟨_, q⟩ | ⟨q, q2⟩)
      · exact absurd (q.symm.trans hi) hj
      · exact q.symm
      · exact absurd q2 hj
  · rw [mrg_neg hi, mrg_pos hj]
    constructor
    · intro q; exact Or.inr (Or.inr ⟨q, hj⟩)
    · rintro (q | ⟨q, _⟩ | ⟨q, _⟩)
      · exact absurd (q.trans hj) hi
      · exact absurd q hi
      · exact q
  · rw [mrg_neg hi, mrg_neg hj]
    constructor
    · exact Or.inl
    · rintro (q | ⟨q, _⟩ | ⟨_, q⟩)
      · exact q
      · exact absurd q hi
      · exact absurd q hj
/-- the labels say what is joined -/
def LabM (s : Wd) (lab : Nat → Nat) (T : List Ed) : Prop := (∀ i, i < 7 → lab i < 7 ∧ s.1 6 i = nI (lab i)) ∧ ∀ i j, i < 7 → j < 7 → (lab i = lab j ↔ Cn T i j)
section mw
variable {N : Nat} {t : Nt}
theorem v_marks2 {ρ : Type} {K : Wd → Option ρ} {x y : Nat} (hx : x < 7) (hy : y < 7) {lab : Nat → Nat} (hlab : ∀ i, i < 7 → lab i < 7) : ∀ d k n (s : Wd), k + d = 7 → d < n → (∀ i, k ≤ i → i < 7 → s.1 6 i = nI (lab i)) →
    ∃ s', fl_X8_marks_2 N (nI x) (nI y) K n (nI k) s = K s' ∧ (∀ i, k ≤ i → i < 7 → s'.1 6 i = nI (mrg x y lab i)) ∧ (∀ i, i < k → s'.1 6 i = s.1 6 i) ∧ (∀ p, p ≠ 6 → s'.1 p = s.1 p) ∧ s'.2 = s.2 := by
  intro d
  induction d with
  | zero =>
    intro k n s hk hn h
    obtain ⟨n, rfl⟩ : ∃ e, n = e + 1 := ⟨n - 1, by omega⟩
    refine ⟨s, ?_, fun j h1 h2 => by omega, fun j _ => rfl, fun p _ => rfl, rfl⟩
    rw [fl_X8_marks_2]
    simp (disch := omega) only [lq7, nI_leI, if_pos]
  | succ d ih =>
    intro k n s hk hn h
    obtain ⟨n, rfl⟩ : ∃ e, n = e + 1 := ⟨n - 1, by omega⟩
    have hl := hlab k (by omega)
    obtain ⟨s', e1, g1, g2, g3, g4⟩ := ih (k + 1) n (sI s 6 k (nI (mrg x y lab k))) (by omega) (by omega) (fun i h1 h2 => by rw [sI_slot (by omega)]; exact h i (by omega) h2)
    refine ⟨s', ?_, fun j h1 h2 => ?_, fun j hj => ?_, fun p hp => ?_, g4⟩
    · rw [fl_X8_marks_2]
      simp (disch := omega) only [lq7, nI_leI, if_neg, rI_n, h k (Nat.le_refl _) (by omega), jn_e, aI_n, nI_1, nI_eq]
      by_cases e : lab k = x
      · rw [mrg_pos e] at e1; rw [if_pos e]; exact e1
      · rw [mrg_neg e] at e1; rw [if_neg e]; exact e1
    · by_cases e : j = k
      · subst e; rw [g2 j (by omega), sI_same]
      · exact g1 j (by omega) h2
    · rw [g2 j (by omega), sI_slot (by omega)]
    · rw [g3 p hp, sI_place hp]
theorem v_marks (hN : 100 ≤ N) {x y : Nat} (hx : x < 7) (hy : y < 7) {lab : Nat → Nat} {s : Wd} (h : ∀ i, i < 7 → lab i < 7 ∧ s.1 6 i = nI (lab i)) :
    ∃ s', f_X8_marks N s (nI x) (nI y) = some s' ∧ (∀ i, i < 7 → mrg x y lab i < 7 ∧ s'.1 6 i = nI (mrg x y lab i)) ∧ (∀ p, p ≠ 6 → s'.1 p = s.1 p) ∧ s'.2 = s.2 := by
  obtain ⟨s', e1, g1, g2, g3, g4⟩ := v_marks2 (N := N) (K := fun s5 => some s5) hx hy (fun i hi => (h i hi).1) 7 0 N s (by omega) (by omega) (fun i _ hi => (h i hi).2)
  refine ⟨s', e1, fun i hi => ⟨?_, g1 i (by omega) hi⟩, g3, g4⟩
  by_cases e : lab i = x
  · rw [mrg_pos e]; exact hy
  · rw [mrg_neg e]; exact (h i hi).1
theorem v_weight2 {ρ : Type} {K : Wd → Option ρ} {x : Int32} : ∀ d k n (s : Wd), k + d = 7 → d < n →
    ∃ s', fl_X8_weightOf_2 N x K n (nI k) s = K s' ∧ (∀ i, k ≤ i → i < 7 → s'.1 6 i = nI i) ∧ (∀ i, i < k → s'.1 6 i = s.1 6 i) ∧ (∀ p, p ≠ 6 → s'.1 p = s.1 p) ∧ s'.2 = s.2 := by
  intro d
  induction d with
  | zero =>
    intro k n s hk hn
    obtain ⟨n, rfl⟩ : ∃ e, n = e + 1 := ⟨n - 1, by omega⟩
    refine ⟨s, ?_, fun j h1 h2 => by omega, fun j _ => rfl, fun p _ => rfl, rfl⟩
    rw [fl_X8_weightOf_2]
    simp (disch := omega) only [lq7, nI_leI, if_pos]
  | succ d ih =>
    intro k n s hk hn
    obtain ⟨n, rfl⟩ : ∃ e, n = e + 1 := ⟨n - 1, by omega⟩
    obtain ⟨s', e1, g1, g2, g3, g4⟩ := ih (k + 1) n (sI s 6 k (nI k)) (by omega) (by omega)
    refine ⟨s', ?_, fun j h1 h2 => ?_, fun j hj => ?_, fun p hp => ?_, g4⟩
    · rw [fl_X8_weightOf_2]
      simp (disch := omega) only [lq7, nI_leI, if_neg, aI_n, nI_1]
      exact e1
    · by_cases e : j = k
      · subst e; rw [g2 j (by omega), sI_same]
      · exact g1 j (by omega) h2
    · rw [g2 j (by omega), sI_slot (by omega)]
    · rw [g3 p hp, sI_place hp]
theorem v_weight26 {ρ : Type} {K : Int64 → Wd → Option ρ} (i : IN t) (hN : 100 ≤ N) {S : Nat} (hS : S < 1048576) (hSw : ∀ w, S.testBit w = true → t.wr.testBit w = true) : ∀ d k n (s : Wd) (lab : Nat → Nat), k + d = t.nW → d < n → RM s t → Ac (lst t S k) → LabM s lab (lst t S k) →
    ∃ s', fl_X8_weightOf_26 N (nI S) K n (lN (wt (lst t S k))) (nI k) s = K (lN (iC (Ac (lst t S t.nW)) (wt (lst t S t.nW)) 0)) s' ∧ FrM s s' ∧ (Ac (lst t S t.nW) → ∃ lab, LabM s' lab (lst t S t.nW)) := by
  have hb : ∀ m, ∀ e ∈ lst t S m, (e.1 < 7 ∧ e.2.1 < 7) ∧ (1 ≤ e.2.2 ∧ e.2.2 ≤ 60) := fun m e he => by
    obtain ⟨w, _, h2, rfl⟩ := lst_mem he
    exact ⟨⟨i.fb w, i.sb w⟩, i.cb w (hSw w h2)⟩
  have hnW := i.nW
  intro d
  induction d with
  | zero =>
    intro k n s lab hk hn r ha hl
    obtain ⟨n, rfl⟩ : ∃ e, n = e + 1 := ⟨n - 1, by omega⟩
    have hk : k = t.nW := by omega
    subst hk
    refine ⟨s, ?_, FrM.rfl' s, fun _ => ⟨lab, hl⟩⟩
    rw [fl_X8_weightOf_26, iC_pos ha]
    simp (disch := omega) only [gI, r.nW, nI_leI, if_pos]
  | succ d ih =>
    intro k n s lab hk hn r ha hl
    obtain ⟨n, rfl⟩ : ∃ e, n = e + 1 := ⟨n - 1, by omega⟩
    have hw := wt_ac ha (fun e he => (hb k e he).1) (fun e he => (hb k e he).2)
    have hw0 : ¬ lg_cmp (lN (wt (lst t S k))) 0 ≤ 0 := by rw [lg_cmp_le, lN_le0 (by omega)]; omega
    rw [fl_X8_weightOf_26]
    simp (disch := omega) only [gI, r.nW, nI_leI, if_neg hw0, if_neg, v_isIn8, bP_s, jn_e, if_bI0, nI_1]
    cases hbk : S.testBit k
    · have e : lst t S (k + 1) = lst t S k := by rw [lst, hbk]; rfl
      have := ih (k + 1) n s lab (by omega) (by omega) r (by rw [e]; exact ha) (by rw [e]; exact hl)
      rw [e] at this
      exact this
    · have e : lst t S (k + 1) = t.g k :: lst t S k := by rw [lst, hbk]; rfl
      have hf := i.fb k
      have hs := i.sb k
      obtain ⟨l1, l2⟩ := hl.1 (t.f k) hf
      obtain ⟨m1, m2⟩ := hl.1 (t.s k) hs
      have hck := i.cb k (hSw k hbk)
      obtain ⟨s1, e1, g1, g2, g3⟩ := v_marks hN l1 m1 hl.1
      have fr : FrM s s1 := ⟨g3, fun p hp _ => g2 p hp⟩
      simp (disch := omega) only [if_true, rI_n, r.f k (by omega), r.s k (by omega), r.c k (by omega), l2, m2, nI_eq, e1, bP_s]
      by_cases hq : lab (t.f k) = lab (t.s k)
      · -- a ring
        have hcn : Cn (lst t S k) (t.f k) (t.s k) := (hl.2 _ _ hf hs).mp hq
        have hna : ¬ Ac (lst t S t.nW) := fun h => by
          obtain ⟨P, hP⟩ := lst_end (t := t) (S := S) (show k + 1 ≤ t.nW by omega)
          rw [hP, e] at h
          exact (Ac.drop P h).1 hcn
        refine ⟨s1, ?_, fr, fun h => absurd h hna⟩
        rw [if_pos hq, iC_neg hna, if_neg (show ¬ (1 : Int32) = 0 by decide)]
        obtain ⟨n, rfl⟩ : ∃ e, n = e + 1 := ⟨n - 1, by omega⟩
        rw [fl_X8_weightOf_26]
        simp only [gI]
        split
        · rfl
        · rw [if_pos (show lg_cmp 0 0 ≤ 0 by decide)]; rfl
      · have hcn : ¬ Cn (lst t S k) (t.f k) (t.s k) := fun h => hq ((hl.2 _ _ hf hs).mpr h)
        obtain ⟨s', e2, f1, f2⟩ := ih (k + 1) n s1 (mrg (lab (t.f k)) (lab (t.s k)) lab) (by omega) (by omega) (fr.RM r) (by rw [e]; exact ⟨hcn, ha⟩)
          ⟨g1, fun x y hx hy => by
            rw [mrg_iff, e, Cn_cons, hl.2 x y hx hy, hl.2 x _ hx hf, hl.2 y _ hy hs, hl.2 x _ hx hs, hl.2 y _ hy hf]
            constructor
            · rintro (q | ⟨q, q2⟩ | ⟨q, q2⟩)
              · exact Or.inl q
              · exact Or.inr (Or.inl ⟨q, q2.symm⟩)
              · exact Or.inr (Or.inr ⟨q, q2.symm⟩)
            · rintro (q | ⟨q, q2⟩ | ⟨q, q2⟩)
              · exact Or.inl q
              · exact Or.inr (Or.inl ⟨q, q2.symm⟩)
              · exact Or.inr (Or.inr ⟨q, q2.symm⟩)⟩
        refine ⟨s', ?_, fr.trans f1, f2⟩
        rw [if_neg hq, nI_l (by omega), lN_mul, ← e2, e]
        congr 2
        exact Nat.mul_comm _ _
theorem v_weightOf (i : IN t) (hN : 100 ≤ N) {S : Nat} (hS : S < 1048576) (hSw : ∀ w, S.testBit w = true → t.wr.testBit w = true) {s : Wd} (r : RM s t) :
    ∃ s', f_X8_weightOf N s (nI S) = some (lN (iC (Ac (lst t S t.nW)) (wt (lst t S t.nW)) 0), s') ∧ FrM s s' ∧ (Ac (lst t S t.nW) → ∃ lab, LabM s' lab (lst t S t.nW)) := by
  have hnW := i.nW
  obtain ⟨s1, e1, g1, g2, g3, g4⟩ := v_weight2 (N := N) (x := nI S) (K := fun s2 => fl_X8_weightOf_26 N (nI S) (fun v19 s20 => some (v19, s20)) N 1 0 s2) 7 0 N s (by omega) (by omega)
  have fr : FrM s s1 := ⟨g4, fun p hp _ => g3 p hp⟩
  obtain ⟨s2, e2, f1, f2⟩ := v_weight26 (N := N) (K := fun v19 s20 => some (v19, s20)) i hN hS hSw t.nW 0 N s1 (fun x => x) (by omega) (by omega) (fr.RM r) trivial
    ⟨fun x hx => ⟨hx, g1 x (by omega) hx⟩, fun x y _ _ => Cn_nil.symm⟩
  exact ⟨s2, e1.trans e2, fr.trans f1, f2⟩
end mw
