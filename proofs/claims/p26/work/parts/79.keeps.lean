/-! MARK AND KEEPS, class and reference. -/
section keeps
variable {N : Nat} {σ τ : Wd} {t : Nt}
theorem ed_and (i : IN t) : t.ed &&& t.nd = t.ed := by
  apply Nat.eq_of_testBit_eq
  intro k
  rw [Nat.testBit_and]
  cases hb : t.ed.testBit k
  · rfl
  · rw [i.edn k hb]; rfl
/-- what was kept at the mark is as now -/
def Mt (t : Nt) (σ : Wd) (a b : Nat) : Prop := σ.2 (42 + a) b = ans t a b 0 ∧ σ.2 (50 + a) b = ans t a b 1
theorem v_isKept {a b : Nat} {u l : Int64} (ha : a < 7) (hb : b < 7) : ∃ v, f_X1_isKept N σ (nI a) (nI b) u l = some (bI v) ∧ (v = true ↔ σ.2 (42 + a) b = u ∧ σ.2 (50 + a) b = l) := by
  unfold f_X1_isKept
  rw [v_isPair ha hb, bP_s, if_neg (show ¬ (1 : Int32) = 0 by decide)]
  simp (disch := omega) only [rR_n, rL_n, lg_cmp_eq]
  by_cases q1 : σ.2 (42 + a) b = u
  · by_cases q2 : σ.2 (50 + a) b = l
    · refine ⟨true, ?_, ?_⟩
      · rw [if_pos q1, if_pos q2]; rfl
      · simp [q1, q2]
    · refine ⟨false, ?_, ?_⟩
      · rw [if_pos q1, if_neg q2]; rfl
      · simp [q2]
  · refine ⟨false, ?_, ?_⟩
    · rw [if_neg q1]; rfl
    · simp [q1]
theorem v_keeps18 {K : Wd → Option (Int32 × Wd)} (i : IN t) (hN : 200 ≤ N) {e mE : Nat} (he : e < 7) (hm7 : mE < 128) (hme : ∀ k, mE.testBit k = true → t.ed.testBit k = true) : ∀ d k n (s : Wd), k + d = 7 → d < n → RN s t → s.1 40 0 = nI mE →
    ∃ s', FrC s s' ∧ (((∀ j, k ≤ j → j < 7 → mE.testBit e = true → mE.testBit j = true → Mt t s e j) ∧ fl_X7_keeps_18 N (lN (cntC t t.ed 0 0)) (nI e) K n (nI k) s = K s') ∨ ((∃ j, k ≤ j ∧ j < 7 ∧ mE.testBit e = true ∧ mE.testBit j = true ∧ ¬ Mt t s e j) ∧ fl_X7_keeps_18 N (lN (cntC t t.ed 0 0)) (nI e) K n (nI k) s = some (0, s'))) := by
  have h7 := i.ed7
  have hr := cnt_lt i t.ed 0 0
  intro d
  induction d with
  | zero =>
    intro k n s hk hn r hm
    obtain ⟨n, rfl⟩ : ∃ m, n = m + 1 := ⟨n - 1, by omega⟩
    refine ⟨s, FrC.rfl' s, Or.inl ⟨fun j h1 h2 => by omega, ?_⟩⟩
    rw [fl_X7_keeps_18, show k = 7 by omega, lq7, if_pos (nI_le (Nat.le_refl _) (by omega))]
  | succ d ih =>
    intro k n s hk hn r hm
    obtain ⟨n, rfl⟩ : ∃ m, n = m + 1 := ⟨n - 1, by omega⟩
    rw [fl_X7_keeps_18]
    simp (disch := omega) only [lq7, nI_leI, if_neg, jn_e, nI_1]
    rw [v_hasPair hm hm7 he (by omega), bP_s, if_bI0]
    have mtc : ∀ s1 : Wd, FrC s s1 → ∀ j, (Mt t s1 e j ↔ Mt t s e j) := fun s1 f j => by unfold Mt; rw [f.1]
    cases hb : (mE.testBit e && mE.testBit k)
    · obtain ⟨s', f1, h⟩ := ih (k + 1) n s (by omega) (by omega) r hm
      refine ⟨s', f1, ?_⟩
      rcases h with ⟨h1, h2⟩ | ⟨⟨j, j1, j2, j3⟩, h2⟩
      · refine Or.inl ⟨fun j j1 j2 j3 j4 => ?_, h2⟩
        rcases Nat.lt_or_ge k j with z | z
        · exact h1 j z j2 j3 j4
        · rw [show j = k by omega] at j4; rw [j3, j4] at hb; exact absurd hb (by decide)
      · exact Or.inr ⟨⟨j, by omega, j2, j3⟩, h2⟩
    · simp only [if_true]
      obtain ⟨s1, e1, f1⟩ := v_upperOfAnswer (N := N) r i (by omega) he (show k < 7 by omega)
      have hu := cnt_lt i (mn t.ed (2 ^ e)) e k
      rw [e1, bS_s, lN_lZ (cntC t (mn t.ed (2 ^ e)) e k), v_partOf (by omega) (by omega) (by omega) (by omega), bP_s, v_partOf (by omega) (by omega) (by omega) (by omega), bP_s]
      obtain ⟨v, e2, hv⟩ := v_isKept (N := N) (σ := s1) (u := ans t e k 0) (l := ans t e k 1) he (show k < 7 by omega)
      rw [show prt (cntC t (mn t.ed (2 ^ e)) e k : Nat) (cntC t t.ed 0 0) 0 = ans t e k 0 from rfl, show prt (cntC t (mn t.ed (2 ^ e)) e k : Nat) (cntC t t.ed 0 0) 1 = ans t e k 1 from rfl, e2, bP_s, if_bI0]
      rw [Bool.and_eq_true] at hb
      cases v
      · refine ⟨s1, f1, Or.inr ⟨⟨k, Nat.le_refl _, by omega, hb.1, hb.2, fun q => ?_⟩, rfl⟩⟩
        exact absurd (hv.mpr ((mtc s1 f1 k).mpr q)) (by decide)
      · have hk := (mtc s1 f1 k).mp (hv.mp rfl)
        obtain ⟨s', f2, h⟩ := ih (k + 1) n s1 (by omega) (by omega) (f1.RN r) (by rw [f1.2 40 (by omega)]; exact hm)
        refine ⟨s', f1.trans f2, ?_⟩
        rcases h with ⟨h1, h2⟩ | ⟨⟨j, j1, j2, j3, j4, j5⟩, h2⟩
        · refine Or.inl ⟨fun j j1 j2 j3 j4 => ?_, h2⟩
          rcases Nat.lt_or_ge k j with z | z
          · exact (mtc s1 f1 j).mp (h1 j z j2 j3 j4)
          · rw [show j = k by omega]; exact hk
        · exact Or.inr ⟨⟨j, by omega, j2, j3, j4, fun q => j5 ((mtc s1 f1 j).mpr q)⟩, h2⟩
theorem v_keeps7 {K : Wd → Option (Int32 × Wd)} (i : IN t) (hN : 200 ≤ N) {mE : Nat} (hm7 : mE < 128) (hme : ∀ k, mE.testBit k = true → t.ed.testBit k = true) : ∀ d e n (s : Wd), e + d = 7 → d < n → RN s t → s.1 40 0 = nI mE →
    ∃ s', FrC s s' ∧ (((∀ a j, e ≤ a → a < j → j < 7 → mE.testBit a = true → mE.testBit j = true → Mt t s a j) ∧ fl_X7_keeps_7 N (lN (cntC t t.ed 0 0)) K n (nI e) s = K s') ∨ ((∃ a j, a < j ∧ j < 7 ∧ mE.testBit a = true ∧ mE.testBit j = true ∧ ¬ Mt t s a j) ∧ fl_X7_keeps_7 N (lN (cntC t t.ed 0 0)) K n (nI e) s = some (0, s'))) := by
  intro d
  induction d with
  | zero =>
    intro e n s hk hn r hm
    obtain ⟨n, rfl⟩ : ∃ m, n = m + 1 := ⟨n - 1, by omega⟩
    refine ⟨s, FrC.rfl' s, Or.inl ⟨fun a j h1 h2 h3 => by omega, ?_⟩⟩
    rw [fl_X7_keeps_7, show e = 7 by omega, lq7, if_pos (nI_le (Nat.le_refl _) (by omega))]
  | succ d ih =>
    intro e n s hk hn r hm
    obtain ⟨n, rfl⟩ : ∃ m, n = m + 1 := ⟨n - 1, by omega⟩
    rw [fl_X7_keeps_7]
    simp (disch := omega) only [lq7, nI_leI, if_neg, nI_1, lI]
    obtain ⟨s1, f1, h⟩ := v_keeps18 (K := fun s11 => fl_X7_keeps_7 N (lN (cntC t t.ed 0 0)) K n (nI (e + 1)) s11) i hN (show e < 7 by omega) hm7 hme (7 - (e + 1)) (e + 1) N s (by omega) (by omega) r hm
    rcases h with ⟨h1, h2⟩ | ⟨⟨j, j1, j2, j3, j4, j5⟩, h2⟩
    · obtain ⟨s', f2, h'⟩ := ih (e + 1) n s1 (by omega) (by omega) (f1.RN r) (by rw [f1.2 40 (by omega)]; exact hm)
      have mtc : ∀ a j, (Mt t s1 a j ↔ Mt t s a j) := fun a j => by unfold Mt; rw [f1.1]
      refine ⟨s', f1.trans f2, ?_⟩
      rw [h2]
      rcases h' with ⟨k1, k2⟩ | ⟨⟨a, j, j1, j2, j3, j4, j5⟩, k2⟩
      · refine Or.inl ⟨fun a j j1 j2 j3 j4 j5 => ?_, k2⟩
        rcases Nat.lt_or_ge e a with z | z
        · exact (mtc a j).mp (k1 a j z j2 j3 j4 j5)
        · have ea : a = e := by omega
          subst ea
          exact h1 j j2 j3 j4 j5
      · exact Or.inr ⟨⟨a, j, j1, j2, j3, j4, fun q => j5 ((mtc a j).mpr q)⟩, k2⟩
    · refine ⟨s1, f1, Or.inr ⟨⟨e, j, by omega, j2, j3, j4, j5⟩, ?_⟩⟩
      rw [h2]
/-- the reference's -/
def Mm (t : Nt) (τ : Wd) (a b : Nat) : Prop := τ.2 8 (7 * a + b) = ans t a b 0 ∧ τ.2 9 (7 * a + b) = ans t a b 1
end keeps
