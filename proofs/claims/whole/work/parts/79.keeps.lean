/-! MARK AND KEEPS, class and reference. -/
section keeps
variable {N : Nat} {σ τ : Wd} {t : Nt}
theorem RM.slot {τ : Wd} {t : Nt} (r : RM τ t) {k : Nat} (hk : k = 0 ∨ 5 < k) (v : Int32) : RM (sI τ 0 k v) t :=
  ⟨by rw [sI_slot (by omega)]; exact r.nd, by rw [sI_slot (by omega)]; exact r.ed, by rw [sI_slot (by omega)]; exact r.wr, by rw [sI_slot (by omega)]; exact r.nN, by rw [sI_slot (by omega)]; exact r.nW,
   by rw [sI_place (by omega)]; exact r.f, by rw [sI_place (by omega)]; exact r.s, by rw [sI_place (by omega)]; exact r.c⟩
theorem ed_and (i : IN t) : t.ed &&& t.nd = t.ed := by
  apply Nat.eq_of_testBit_eq
  intro k
  rw [Nat.testBit_and]
  cases hb : t.ed.testBit k
  · rfl
  · rw [i.edn k hb]; rfl
theorem sim_mark (h : RT σ τ t) (hN : 5000 ≤ N) : ∃ σ' τ', f_X7_mark N σ = some σ' ∧ f_X8_mark N τ = some τ' ∧ RR σ' τ' := by
  obtain ⟨h1, h2, i, h4, -, m, sn, k1, k2, k3, k4⟩ := h
  obtain ⟨s, e, a1, a2, a3⟩ := v_mark (N := N) h1 i (by omega)
  have r5 : RM (sI (sI (sI τ 0 0 0) 0 14 1) 0 15 (nI t.ed)) t := ((h2.slot (Or.inl rfl) 0).slot (Or.inr (by omega)) 1).slot (Or.inr (by omega)) _
  obtain ⟨u1, g1, f1⟩ := m_rest (N := N) r5 i hN
  have h15 : u1.1 0 15 = nI t.ed := by rw [f1.2 0 (by omega) (by omega)]; exact sI_same _ _ _ _
  obtain ⟨u2, g2, f2, b1, b2⟩ := m_mark34 (N := N) (K := fun s20 => some s20) i hN 7 0 N u1 (by omega) (by omega) (f1.RM r5) h15
  have hu : ∀ p, p ≠ 6 → p ≠ 7 → u2.1 p = (sI (sI (sI τ 0 0 0) 0 14 1) 0 15 (nI t.ed)).1 p := fun p hp hq => (f2 p hp hq).trans (f1.2 p hp hq)
  refine ⟨s, u2, e, ?_, t, ?_, f2.RM (f1.RM r5), i, fun j hj => ?_, ⟨t.ed, a2, ?_, fun _ q => q, Or.inr ?_, fun x y hxy hy hx' hy' => ?_⟩, m, sn, ?_, ?_, k3, fun j hj => ?_⟩
  · unfold f_X8_mark
    simp only [wI, gI, zb, or_true, if_true]
    rw [sI_slot (by omega), sI_slot (by omega), h2.ed, sI_slot (by omega), sI_slot (by omega), h2.nd, fa_and, ed_and i, g1, bS_s]
    exact g2
  · exact h1.same (fun p hp hp' => a1 p (Or.inl (by omega)) (by omega))
  · rw [a1 57 (by omega) (by omega), hu 4 (by omega) (by omega), sI_place (by omega), sI_place (by omega), sI_place (by omega)]; exact h4 j hj
  · rw [hu 0 (by omega) (by omega)]; exact sI_same _ _ _ _
  · rw [hu 0 (by omega) (by omega), sI_slot (by omega), sI_same]
  · rw [(a3 x y hxy hy hx' hy').1, (a3 x y hxy hy hx' hy').2, (b1 y x (by omega) hy hxy hy' hx').1, (b1 y x (by omega) hy hxy hy' hx').2, ans_sym i hx' hy' (by omega), ans_sym i hx' hy' (by omega)]
    exact ⟨rfl, rfl⟩
  · rw [a1 28 (by omega) (by omega)]; exact k1
  · rw [hu 0 (by omega) (by omega), sI_slot (by omega), sI_slot (by omega), sI_slot (by omega)]; exact k2
  · obtain ⟨c1, c2, c3, c4, c5⟩ := k4 j hj
    refine ⟨c1, c2, ?_, ?_, ?_⟩
    · rw [a1 34 (by omega) (by omega), a1 35 (by omega) (by omega), a1 36 (by omega) (by omega), a1 37 (by omega) (by omega)]; exact c3
    · rw [hu 5 (by omega) (by omega), sI_place (by omega), sI_place (by omega), sI_place (by omega)]; exact c4
    · have ks : ∀ x nW c, KStp σ j x nW c → KStp s j x nW c := fun x nW c q => by
        unfold KStp at *
        rw [a1 38 (by omega) (by omega), a1 39 (by omega) (by omega)]; exact q
      by_cases q : j + 1 < m
      · rw [if_pos q] at c5 ⊢; exact ks _ _ _ c5
      · rw [if_neg q] at c5 ⊢; exact ks _ _ _ c5
/-- what was kept at the mark is as now -/
def Mt (t : Nt) (σ : Wd) (a b : Nat) : Prop := σ.2 (42 + a) b = ans t a b 0 ∧ σ.2 (50 + a) b = ans t a b 1
theorem v_isKept {a b : Nat} {u l : Int64} (ha : a < 7) (hb : b < 7) : ∃ v, f_X1_isKept N σ (nI a) (nI b) u l = some (bI v) ∧ (v = true ↔ σ.2 (42 + a) b = u ∧ σ.2 (50 + a) b = l) := by
  unfold f_X1_isKept
  rw [v_isPair ha hb, bP_s, if_neg (show ¬ (1 : Int32) = 0 by decide)]
  simp (disch := omega) only [rR_n, rL_n, lg_cmp_eq]
  by_cases q1 : σ.2 (42 + a) b = u
  · by_cases q2 : σ.2 (50 + a) b = l
    · refine ⟨true, ?_, ?_⟩
      · rw [if_pos q1, if_pos q2]; rfl
      · simp [q1, q2]
    · refine ⟨false, ?_, ?_⟩
      · rw [if_pos q1, if_neg q2]; rfl
      · simp [q2]
  · refine ⟨false, ?_, ?_⟩
    · rw [if_neg q1]; rfl
    · simp [q1]
theorem v_keeps18 {K : Wd → Option (Int32 × Wd)} (i : IN t) (hN : 200 ≤ N) {e mE : Nat} (he : e < 7) (hm7 : mE < 128) (hme : ∀ k, mE.testBit k = true → t.ed.testBit k = true) : ∀ d k n (s : Wd), k + d = 7 → d < n → RN s t → s.1 40 0 = nI mE →
    ∃ s', FrC s s' ∧ (((∀ j, k ≤ j → j < 7 → mE.testBit e = true → mE.testBit j = true → Mt t s e j) ∧ fl_X7_keeps_18 N (lN (cntC t t.ed 0 0)) (nI e) K n (nI k) s = K s') ∨ ((∃ j, k ≤ j ∧ j < 7 ∧ mE.testBit e = true ∧ mE.testBit j = true ∧ ¬ Mt t s e j) ∧ fl_X7_keeps_18 N (lN (cntC t t.ed 0 0)) (nI e) K n (nI k) s = some (0, s'))) := by
  have h7 := i.ed7
  have hr := cnt_lt i t.ed 0 0
  intro d
  induction d with
  | zero =>
    intro k n s hk hn r hm
    obtain ⟨n, rfl⟩ : ∃ m, n = m + 1 := ⟨n - 1, by omega⟩
    refine ⟨s, FrC.rfl' s, Or.inl ⟨fun j h1 h2 => by omega, ?_⟩⟩
    rw [fl_X7_keeps_18, show k = 7 by omega, lq7, if_pos (nI_le (Nat.le_refl _) (by omega))]
  | succ d ih =>
    intro k n s hk hn r hm
    obtain ⟨n, rfl⟩ : ∃ m, n = m + 1 := ⟨n - 1, by omega⟩
    rw [fl_X7_keeps_18]
    simp (disch := omega) only [lq7, nI_leI, if_neg, jn_e, nI_1]
    rw [v_hasPair hm hm7 he (by omega), bP_s, if_bI0]
    have mtc : ∀ s1 : Wd, FrC s s1 → ∀ j, (Mt t s1 e j ↔ Mt t s e j) := fun s1 f j => by unfold Mt; rw [f.1]
    cases hb : (mE.testBit e && mE.testBit k)
    · obtain ⟨s', f1, h⟩ := ih (k + 1) n s (by omega) (by omega) r hm
      refine ⟨s', f1, ?_⟩
      rcases h with ⟨h1, h2⟩ | ⟨⟨j, j1, j2, j3⟩, h2⟩
      · refine Or.inl ⟨fun j j1 j2 j3 j4 => ?_, h2⟩
        rcases Nat.lt_or_ge k j with z | z
        · exact h1 j z j2 j3 j4
        · rw [show j = k by omega] at j4; rw [j3, j4] at hb; exact absurd hb (by decide)
      · exact Or.inr ⟨⟨j, by omega, j2, j3⟩, h2⟩
    · simp only [if_true]
      obtain ⟨s1, e1, f1⟩ := v_upperOfAnswer (N := N) r i (by omega) he (show k < 7 by omega)
      have hu := cnt_lt i (mn t.ed (2 ^ e)) e k
      rw [e1, bS_s, lN_lZ (cntC t (mn t.ed (2 ^ e)) e k), v_partOf (by omega) (by omega) (by omega) (by omega), bP_s, v_partOf (by omega) (by omega) (by omega) (by omega), bP_s]
      obtain ⟨v, e2, hv⟩ := v_isKept (N := N) (σ := s1) (u := ans t e k 0) (l := ans t e k 1) he (show k < 7 by omega)
      rw [show prt (cntC t (mn t.ed (2 ^ e)) e k : Nat) (cntC t t.ed 0 0) 0 = ans t e k 0 from rfl, show prt (cntC t (mn t.ed (2 ^ e)) e k : Nat) (cntC t t.ed 0 0) 1 = ans t e k 1 from rfl, e2, bP_s, if_bI0]
      rw [Bool.and_eq_true] at hb
      cases v
      · refine ⟨s1, f1, Or.inr ⟨⟨k, Nat.le_refl _, by omega, hb.1, hb.2, fun q => ?_⟩, rfl⟩⟩
        exact absurd (hv.mpr ((mtc s1 f1 k).mpr q)) (by decide)
      · have hk := (mtc s1 f1 k).mp (hv.mp rfl)
        obtain ⟨s', f2, h⟩ := ih (k + 1) n s1 (by omega) (by omega) (f1.RN r) (by rw [f1.2 40 (by omega)]; exact hm)
        refine ⟨s', f1.trans f2, ?_⟩
        rcases h with ⟨h1, h2⟩ | ⟨⟨j, j1, j2, j3, j4, j5⟩, h2⟩
        · refine Or.inl ⟨fun j j1 j2 j3 j4 => ?_, h2⟩
          rcases Nat.lt_or_ge k j with z | z
          · exact (mtc s1 f1 j).mp (h1 j z j2 j3 j4)
          · rw [show j = k by omega]; exact hk
        · exact Or.inr ⟨⟨j, by omega, j2, j3, j4, fun q => j5 ((mtc s1 f1 j).mpr q)⟩, h2⟩
theorem v_keeps7 {K : Wd → Option (Int32 × Wd)} (i : IN t) (hN : 200 ≤ N) {mE : Nat} (hm7 : mE < 128) (hme : ∀ k, mE.testBit k = true → t.ed.testBit k = true) : ∀ d e n (s : Wd), e + d = 7 → d < n → RN s t → s.1 40 0 = nI mE →
    ∃ s', FrC s s' ∧ (((∀ a j, e ≤ a → a < j → j < 7 → mE.testBit a = true → mE.testBit j = true → Mt t s a j) ∧ fl_X7_keeps_7 N (lN (cntC t t.ed 0 0)) K n (nI e) s = K s') ∨ ((∃ a j, a < j ∧ j < 7 ∧ mE.testBit a = true ∧ mE.testBit j = true ∧ ¬ Mt t s a j) ∧ fl_X7_keeps_7 N (lN (cntC t t.ed 0 0)) K n (nI e) s = some (0, s'))) := by
  intro d
  induction d with
  | zero =>
    intro e n s hk hn r hm
    obtain ⟨n, rfl⟩ : ∃ m, n = m + 1 := ⟨n - 1, by omega⟩
    refine ⟨s, FrC.rfl' s, Or.inl ⟨fun a j h1 h2 h3 => by omega, ?_⟩⟩
    rw [fl_X7_keeps_7, show e = 7 by omega, lq7, if_pos (nI_le (Nat.le_refl _) (by omega))]
  | succ d ih =>
    intro e n s hk hn r hm
    obtain ⟨n, rfl⟩ : ∃ m, n = m + 1 := ⟨n - 1, by omega⟩
    rw [fl_X7_keeps_7]
    simp (disch := omega) only [lq7, nI_leI, if_neg, nI_1, lI]
    obtain ⟨s1, f1, h⟩ := v_keeps18 (K := fun s11 => fl_X7_keeps_7 N (lN (cntC t t.ed 0 0)) K n (nI (e + 1)) s11) i hN (show e < 7 by omega) hm7 hme (7 - (e + 1)) (e + 1) N s (by omega) (by omega) r hm
    rcases h with ⟨h1, h2⟩ | ⟨⟨j, j1, j2, j3, j4, j5⟩, h2⟩
    · obtain ⟨s', f2, h'⟩ := ih (e + 1) n s1 (by omega) (by omega) (f1.RN r) (by rw [f1.2 40 (by omega)]; exact hm)
      have mtc : ∀ a j, (Mt t s1 a j ↔ Mt t s a j) := fun a j => by unfold Mt; rw [f1.1]
      refine ⟨s', f1.trans f2, ?_⟩
      rw [h2]
      rcases h' with ⟨k1, k2⟩ | ⟨⟨a, j, j1, j2, j3, j4, j5⟩, k2⟩
      · refine Or.inl ⟨fun a j j1 j2 j3 j4 j5 => ?_, k2⟩
        rcases Nat.lt_or_ge e a with z | z
        · exact (mtc a j).mp (k1 a j z j2 j3 j4 j5)
        · have ea : a = e := by omega
          subst ea
          exact h1 j j2 j3 j4 j5
      · exact Or.inr ⟨⟨a, j, j1, j2, j3, j4, fun q => j5 ((mtc a j).mpr q)⟩, k2⟩
    · refine ⟨s1, f1, Or.inr ⟨⟨e, j, by omega, j2, j3, j4, j5⟩, ?_⟩⟩
      rw [h2]
/-- the reference's -/
def Mm (t : Nt) (τ : Wd) (a b : Nat) : Prop := τ.2 8 (7 * a + b) = ans t a b 0 ∧ τ.2 9 (7 * a + b) = ans t a b 1
theorem m_keeps36 {ρ : Type} {K : Int32 → Wd → Option ρ} (i : IN t) (hN : 5000 ≤ N) {e mE : Nat} (he : e < 7) (hm7 : mE < 128) (hme : ∀ k, mE.testBit k = true → t.ed.testBit k = true) : ∀ d k n (b : Bool) (s : Wd), k + d = e → d < n → RM s t → s.1 0 15 = nI mE →
    ∃ s' v, fl_X8_keeps_36 N (lN (cntC t t.ed 0 0)) (nI e) K n (bI b) (nI k) s = K (bI v) s' ∧ FrM s s' ∧ (v = true ↔ b = true ∧ ∀ j, k ≤ j → j < e → mE.testBit e = true → mE.testBit j = true → Mm t s e j) := by
  have h7 := i.ed7
  have hr := cnt_lt i t.ed 0 0
  intro d
  induction d with
  | zero =>
    intro k n b s hk hn r hm
    obtain ⟨n, rfl⟩ : ∃ m, n = m + 1 := ⟨n - 1, by omega⟩
    refine ⟨s, b, ?_, FrM.rfl' s, fun h => ⟨h, fun j h1 h2 => by omega⟩, fun h => h.1⟩
    rw [fl_X8_keeps_36, show k = e by omega, if_pos (nI_le (Nat.le_refl _) (by omega))]
  | succ d ih =>
    intro k n b s hk hn r hm
    obtain ⟨n, rfl⟩ : ∃ m, n = m + 1 := ⟨n - 1, by omega⟩
    have skip : (mE.testBit e && mE.testBit k) = false → ∃ s' v, fl_X8_keeps_36 N (lN (cntC t t.ed 0 0)) (nI e) K n (bI b) (nI (k + 1)) s = K (bI v) s' ∧ FrM s s' ∧ (v = true ↔ b = true ∧ ∀ j, k ≤ j → j < e → mE.testBit e = true → mE.testBit j = true → Mm t s e j) := fun hb => by
      obtain ⟨s', v, e1, f1, h⟩ := ih (k + 1) n b s (by omega) (by omega) r hm
      refine ⟨s', v, e1, f1, h.trans (and_congr_right (fun _ => ⟨fun q j j1 j2 j3 j4 => ?_, fun q j j1 j2 j3 j4 => q j (by omega) j2 j3 j4⟩))⟩
      rcases Nat.lt_or_ge k j with z | z
      · exact q j z j2 j3 j4
      · rw [show j = k by omega] at j4; rw [j3, j4] at hb; exact absurd hb (by decide)
    rw [fl_X8_keeps_36]
    simp (disch := omega) only [nI_leI, if_neg, jn_e, nI_1, gI, hm, v_isIn8, bP_s, if_bI0]
    rcases Bool.eq_false_or_eq_true (mE.testBit e) with hbe | hbe
    case inr => rw [if_neg (by rw [hbe]; decide)]; exact skip (by rw [hbe]; rfl)
    case inl =>
      rw [if_pos hbe]
      rcases Bool.eq_false_or_eq_true (mE.testBit k) with hbk | hbk
      case inr => rw [if_neg (by rw [hbk]; decide)]; exact skip (by rw [hbk]; simp)
      case inl =>
        rw [if_pos hbk]
        obtain ⟨s1, e1, f1⟩ := m_pair (N := N) r i hN (hme e hbe) (show k < 7 by omega)
        have hu := cnt_lt i (mn t.ed (2 ^ e)) e k
        rw [e1, bS_s]
        have step : ∀ b' : Bool, (b' = true ↔ b = true ∧ Mm t s e k) → ∃ s' v, fl_X8_keeps_36 N (lN (cntC t t.ed 0 0)) (nI e) K n (bI b') (nI (k + 1)) s1 = K (bI v) s' ∧ FrM s s' ∧ (v = true ↔ b = true ∧ ∀ j, k ≤ j → j < e → mE.testBit e = true → mE.testBit j = true → Mm t s e j) := fun b' hb' => by
          obtain ⟨s', v, e2, f2, h⟩ := ih (k + 1) n b' s1 (by omega) (by omega) (f1.RM r) (by rw [f1.2 0 (by omega) (by omega)]; exact hm)
          have mtc : ∀ j, (Mm t s1 e j ↔ Mm t s e j) := fun j => by unfold Mm; rw [f1.1]
          refine ⟨s', v, e2, f1.trans f2, ?_⟩
          rw [h, hb']
          constructor
          · rintro ⟨⟨q1, q2⟩, q3⟩
            refine ⟨q1, fun j j1 j2 j3 j4 => ?_⟩
            rcases Nat.lt_or_ge k j with z | z
            · exact (mtc j).mp (q3 j z j2 j3 j4)
            · rw [show j = k by omega]; exact q2
          · rintro ⟨q1, q2⟩
            exact ⟨⟨q1, q2 k (Nat.le_refl _) (by omega) hbe hbk⟩, fun j j1 j2 j3 j4 => (mtc j).mpr (q2 j (by omega) j2 j3 j4)⟩
        have s12 : s1.2 = s.2 := f1.1
        cases b
        · exact step false (by simp)
        · rw [if_pos (show true = true from rfl)]
          rw [lq7, pk_mul, nI_add, rL_n (by omega) (by omega), lN_lZ (cntC t (mn t.ed (2 ^ e)) e k), v_part (by omega) (by omega) (by omega) (by omega), bP_s]
          rw [show prt (cntC t (mn t.ed (2 ^ e)) e k : Nat) (cntC t t.ed 0 0) 0 = ans t e k 0 from rfl, s12]
          by_cases q1 : s.2 8 (7 * e + k) = ans t e k 0
          · rw [if_pos (by rw [lg_cmp_eq]; exact q1), rL_n (by omega) (by omega), v_part (by omega) (by omega) (by omega) (by omega), bP_s, s12]
            rw [show prt (cntC t (mn t.ed (2 ^ e)) e k : Nat) (cntC t t.ed 0 0) 1 = ans t e k 1 from rfl]
            by_cases q2 : s.2 9 (7 * e + k) = ans t e k 1
            · rw [if_pos (by rw [lg_cmp_eq]; exact q2)]
              exact step true (by simp [Mm, q1, q2])
            · rw [if_neg (by rw [lg_cmp_eq]; exact q2)]
              exact step false (by simp [Mm, q2])
          · rw [if_neg (by rw [lg_cmp_eq]; exact q1)]
            exact step false (by simp [Mm, q1])
end keeps
