/-! THE MARK. -/
/-- a part of the answer of two edges -/
noncomputable def ans (t : Nt) (a b : Nat) (low : Int32) : Int64 := prt (cntC t (mn t.ed (2 ^ a)) a b : Nat) (cntC t t.ed 0 0) low
theorem ans_sym {t : Nt} (i : IN t) {a b : Nat} (ha : t.ed.testBit a = true) (hb : t.ed.testBit b = true) (hab : a ≠ b) (l : Int32) : ans t a b l = ans t b a l := by
  unfold ans; rw [cnt_sym i ha hb hab]
/-- what a mark changes: beside the counts' cells the longs of the rows -/
def FrK (σ σ' : Wd) : Prop := ∀ p, (p < 5 ∨ 15 < p) → σ'.1 p = σ.1 p
theorem FrK.trans {a b c : Wd} (h : FrK a b) (g : FrK b c) : FrK a c := fun p hp => (g p hp).trans (h p hp)
theorem FrC.k {σ σ' : Wd} (h : FrC σ σ') : FrK σ σ' := h.2
theorem FrK.RN {σ σ' : Wd} {t : Nt} (h : FrK σ σ') (r : RN σ t) : RN σ' t := r.same (fun p _ hp => h p (Or.inl (by omega)))
section mark
variable {N : Nat} {σ τ : Wd} {t : Nt}
theorem v_isPair {a b : Nat} (ha : a < 7) (hb : b < 7) : f_X1_isPair N (nI a) (nI b) = some 1 := by
  unfold f_X1_isPair
  simp (disch := omega) only [lt0, if_false, lq7, nI_leI, if_neg]
theorem v_hasPair {mE a b : Nat} (hσ : σ.1 40 0 = nI mE) (hm : mE < 128) (ha : a < 7) (hb : b < 7) : f_X1_hasPair N σ (nI a) (nI b) = some (bI (mE.testBit a && mE.testBit b)) := by
  unfold f_X1_hasPair
  rw [v_isPair ha hb, bP_s, if_neg (show ¬ (1 : Int32) = 0 by decide)]
  simp (disch := omega) only [gI, hσ, v_isIn, bP_s, if_bI0]
  cases mE.testBit a <;> cases mE.testBit b <;> rfl
theorem v_keep {a b : Nat} {u l : Int64} (ha : a < 7) (hb : b < 7) : f_X1_keep N σ (nI a) (nI b) u l = some (sL (sL σ (42 + a) b u) (50 + a) b l) := by
  unfold f_X1_keep
  rw [v_isPair ha hb, bP_s, if_neg (show ¬ (1 : Int32) = 0 by decide)]
  simp (disch := omega) only [rR_n, aL_n]
theorem v_mark32 {ρ : Type} {K : Wd → Option ρ} (i : IN t) (hN : 200 ≤ N) {e : Nat} (he : e < 7) : ∀ d k n (s : Wd), k + d = 7 → d < n → RN s t → s.1 40 0 = nI t.ed →
    ∃ s', fl_X7_mark_32 N (lN (cntC t t.ed 0 0)) (nI e) K n (nI k) s = K s' ∧ FrK s s' ∧ (∀ j, k ≤ j → j < 7 → t.ed.testBit e = true → t.ed.testBit j = true → s'.2 (42 + e) j = ans t e j 0 ∧ s'.2 (50 + e) j = ans t e j 1) ∧ (∀ p j, (p ≠ 42 + e ∧ p ≠ 50 + e) ∨ j < k → s'.2 p j = s.2 p j) := by
  have h7 := i.ed7
  have hr := cnt_lt i t.ed 0 0
  intro d
  induction d with
  | zero =>
    intro k n s hk hn r hm
    obtain ⟨n, rfl⟩ : ∃ m, n = m + 1 := ⟨n - 1, by omega⟩
    refine ⟨s, ?_, fun p _ => rfl, fun j h1 h2 => by omega, fun p j _ => rfl⟩
    rw [fl_X7_mark_32, show k = 7 by omega, lq7, if_pos (nI_le (Nat.le_refl _) (by omega))]
  | succ d ih =>
    intro k n s hk hn r hm
    obtain ⟨n, rfl⟩ : ∃ m, n = m + 1 := ⟨n - 1, by omega⟩
    rw [fl_X7_mark_32]
    simp (disch := omega) only [lq7, nI_leI, if_neg, jn_e, nI_1]
    rw [v_hasPair hm h7 he (by omega), bP_s, if_bI0]
    cases hb : (t.ed.testBit e && t.ed.testBit k)
    · obtain ⟨s', e1, g1, g2, g3⟩ := ih (k + 1) n s (by omega) (by omega) r hm
      refine ⟨s', e1, g1, fun j h1 h2 h3 h4 => ?_, fun p j hp => g3 p j (by omega)⟩
      rcases Nat.lt_or_ge k j with z | z
      · exact g2 j z h2 h3 h4
      · rw [show j = k by omega] at h4; rw [h3, h4] at hb; exact absurd hb (by decide)
    · obtain ⟨s1, e1, f1⟩ := v_upperOfAnswer (N := N) r i (by omega) he (show k < 7 by omega)
      have hu := cnt_lt i (mn t.ed (2 ^ e)) e k
      obtain ⟨s', e2, g1, g2, g3⟩ := ih (k + 1) n (sL (sL s1 (42 + e) k (ans t e k 0)) (50 + e) k (ans t e k 1)) (by omega) (by omega) (f1.RN r) (by
        show s1.1 40 0 = nI t.ed
        rw [f1.2 40 (by omega)]; exact hm)
      refine ⟨s', ?_, fun p hp => (g1 p hp).trans (f1.2 p hp), fun j h1 h2 h3 h4 => ?_, fun p j hp => ?_⟩
      · simp only [if_true]
        rw [e1, bS_s, lN_lZ (cntC t (mn t.ed (2 ^ e)) e k), v_partOf (by omega) (by omega) (by omega) (by omega), bP_s, v_partOf (by omega) (by omega) (by omega) (by omega), bP_s, v_keep he (by omega), bP_s]
        exact e2
      · rcases Nat.lt_or_ge k j with z | z
        · exact g2 j z h2 h3 h4
        · have ej : j = k := by omega
          subst ej
          rw [g3 _ _ (Or.inr (by omega)), g3 _ _ (Or.inr (by omega)), sL_same, sL_place (by omega), sL_same]
          exact ⟨rfl, rfl⟩
      · rw [g3 p j (by omega), ← f1.1]
        rcases hp with ⟨p1, p2⟩ | hp
        · rw [sL_place p2, sL_place p1]
        · rw [sL_at, if_neg (by omega), sL_at, if_neg (by omega)]
theorem v_mark21 {ρ : Type} {K : Wd → Option ρ} (i : IN t) (hN : 200 ≤ N) : ∀ d e n (s : Wd), e + d = 7 → d < n → RN s t → s.1 40 0 = nI t.ed →
    ∃ s', fl_X7_mark_21 N (lN (cntC t t.ed 0 0)) K n (nI e) s = K s' ∧ FrK s s' ∧ (∀ a j, e ≤ a → a < j → j < 7 → t.ed.testBit a = true → t.ed.testBit j = true → s'.2 (42 + a) j = ans t a j 0 ∧ s'.2 (50 + a) j = ans t a j 1) ∧ (∀ a j, a < e → s'.2 (42 + a) j = s.2 (42 + a) j ∧ s'.2 (50 + a) j = s.2 (50 + a) j) := by
  intro d
  induction d with
  | zero =>
    intro e n s hk hn r hm
    obtain ⟨n, rfl⟩ : ∃ m, n = m + 1 := ⟨n - 1, by omega⟩
    refine ⟨s, ?_, fun p _ => rfl, fun a j h1 h2 => by omega, fun a j _ => ⟨rfl, rfl⟩⟩
    rw [fl_X7_mark_21, show e = 7 by omega, lq7, if_pos (nI_le (Nat.le_refl _) (by omega))]
  | succ d ih =>
    intro e n s hk hn r hm
    obtain ⟨n, rfl⟩ : ∃ m, n = m + 1 := ⟨n - 1, by omega⟩
    rw [fl_X7_mark_21]
    simp (disch := omega) only [lq7, nI_leI, if_neg, nI_1, lI]
    obtain ⟨s1, e1, g1, g2, g3⟩ := v_mark32 (K := fun s13 => fl_X7_mark_21 N (lN (cntC t t.ed 0 0)) K n (nI (e + 1)) s13) i hN (show e < 7 by omega) (7 - (e + 1)) (e + 1) N s (by omega) (by omega) r hm
    obtain ⟨s', e2, k1, k2, k3⟩ := ih (e + 1) n s1 (by omega) (by omega) (g1.RN r) (by rw [g1 40 (by omega)]; exact hm)
    refine ⟨s', e1.trans e2, g1.trans k1, fun a j h1 h2 h3 h4 h5 => ?_, fun a j h => ?_⟩
    · rcases Nat.lt_or_ge e a with z | z
      · exact k2 a j z h2 h3 h4 h5
      · have ea : a = e := by omega
        subst ea
        rw [(k3 a j (by omega)).1, (k3 a j (by omega)).2]
        exact g2 j h2 h3 h4 h5
    · rw [(k3 a j (by omega)).1, (k3 a j (by omega)).2]
      exact ⟨g3 _ _ (Or.inl (by omega)), g3 _ _ (Or.inl (by omega))⟩
theorem v_mark (r : RN σ t) (i : IN t) (hN : 200 ≤ N) : ∃ σ', f_X7_mark N σ = some σ' ∧ (∀ p, (p < 5 ∨ 15 < p) → p ≠ 40 → σ'.1 p = σ.1 p) ∧ σ'.1 40 0 = nI t.ed ∧ (∀ a j, a < j → j < 7 → t.ed.testBit a = true → t.ed.testBit j = true → σ'.2 (42 + a) j = ans t a j 0 ∧ σ'.2 (50 + a) j = ans t a j 1) := by
  have r1 : RN (sI σ 40 0 (nI t.ed)) t := r.same (fun p _ _ => sI_place (by omega))
  obtain ⟨s1, e1, f1⟩ := v_countRest (N := N) r1 i (by omega)
  have h40 : s1.1 40 0 = nI t.ed := by rw [f1.2 40 (by omega)]; exact sI_same _ _ _ _
  obtain ⟨s2, e2, g1, g2, g3⟩ := v_mark21 (N := N) (K := fun s14 => some s14) i hN 7 0 N s1 (by omega) (by omega) (f1.RN r1) h40
  refine ⟨s2, ?_, fun p hp hp' => ?_, ?_, fun a j h1 h2 h3 h4 => g2 a j (by omega) h1 h2 h3 h4⟩
  · simp only [f_X7_mark, f_X1_begin, gI, wI, r.ed, bP_s]
    rw [e1, bS_s]
    exact e2
  · rw [g1 p hp, f1.2 p hp, sI_place hp']
  · rw [g1 40 (by omega)]; exact h40
/-- the reference's -/
def FrN (τ τ' : Wd) : Prop := ∀ p, p ≠ 6 → p ≠ 7 → τ'.1 p = τ.1 p
end mark
