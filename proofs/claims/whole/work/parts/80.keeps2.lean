/-! KEEPS, the end. -/
section keeps2
variable {N : Nat} {σ τ : Wd} {t : Nt}
theorem m_keeps19 {ρ : Type} {K : Int32 → Wd → Option ρ} (i : IN t) (hN : 5000 ≤ N) {mE : Nat} (hm7 : mE < 128) (hme : ∀ k, mE.testBit k = true → t.ed.testBit k = true) : ∀ d e n (b : Bool) (s : Wd), e + d = 7 → d < n → RM s t → s.1 0 15 = nI mE → s.1 0 14 = 1 →
    ∃ s' v, fl_X8_keeps_19 N (lN (cntC t t.ed 0 0)) K n (bI b) (nI e) s = K (bI v) s' ∧ FrM s s' ∧ (v = true ↔ b = true ∧ ∀ a j, e ≤ a → a < 7 → j < a → mE.testBit a = true → mE.testBit j = true → Mm t s a j) := by
  intro d
  induction d with
  | zero =>
    intro e n b s hk hn r hm h14
    obtain ⟨n, rfl⟩ : ∃ m, n = m + 1 := ⟨n - 1, by omega⟩
    refine ⟨s, b, ?_, FrM.rfl' s, fun h => ⟨h, fun a j h1 h2 => by omega⟩, fun h => h.1⟩
    rw [fl_X8_keeps_19, show e = 7 by omega, lq7, if_pos (nI_le (Nat.le_refl _) (by omega))]
  | succ d ih =>
    intro e n b s hk hn r hm h14
    obtain ⟨n, rfl⟩ : ∃ m, n = m + 1 := ⟨n - 1, by omega⟩
    rw [fl_X8_keeps_19]
    simp (disch := omega) only [lq7, nI_leI, if_neg, nI_1, gI, h14]
    rw [if_neg (show ¬ (1 : Int32) = 0 by decide)]
    obtain ⟨s1, v1, e1, f1, h1⟩ := m_keeps36 (K := fun v18 s19 => fl_X8_keeps_19 N (lN (cntC t t.ed 0 0)) K n v18 (nI (e + 1)) s19) i hN (show e < 7 by omega) hm7 hme e 0 N b s (by omega) (by omega) r hm
    obtain ⟨s', v, e2, f2, h2⟩ := ih (e + 1) n v1 s1 (by omega) (by omega) (f1.RM r) (by rw [f1.2 0 (by omega) (by omega)]; exact hm) (by rw [f1.2 0 (by omega) (by omega)]; exact h14)
    have mtc : ∀ a j, (Mm t s1 a j ↔ Mm t s a j) := fun a j => by unfold Mm; rw [f1.1]
    refine ⟨s', v, e1.trans e2, f1.trans f2, ?_⟩
    rw [h2, h1]
    constructor
    · rintro ⟨⟨q1, q2⟩, q3⟩
      refine ⟨q1, fun a j j1 j2 j3 j4 j5 => ?_⟩
      rcases Nat.lt_or_ge e a with z | z
      · exact (mtc a j).mp (q3 a j z j2 j3 j4 j5)
      · have ea : a = e := by omega
        subst ea
        exact q2 j (by omega) j3 j4 j5
    · rintro ⟨q1, q2⟩
      exact ⟨⟨q1, fun j _ j2 j3 j4 => q2 e j (Nat.le_refl _) (by omega) j2 j3 j4⟩, fun a j j1 j2 j3 j4 j5 => (mtc a j).mpr (q2 a j (by omega) j2 j3 j4 j5)⟩
theorem sim_keeps (h : RT σ τ t) (hN : 5000 ≤ N) : Sim (f_X7_keeps N σ) (f_X8_keeps N τ) := by
  have i := h.2.2.1
  have h7 := i.ed7
  obtain ⟨mE, a1, a2, a3, a4, a5⟩ := h.2.2.2.2.1
  have hm7 : mE < 128 := lt_of_bits (n := 7) (fun k hk => bit7 h7 (a3 k hk))
  obtain ⟨s1, e1, f1⟩ := v_countRest (N := N) h.1 i (by omega)
  have r0 := (EqM.thr τ 0).RM h.2.1
  obtain ⟨u1, g1, k1⟩ := m_rest (N := N) r0 i hN
  obtain ⟨s2, f2, hs⟩ := v_keeps7 (N := N) (K := fun s12 => some ((1 : Int32), s12)) i (by omega) hm7 a3 7 0 N s1 (by omega) (by omega) (f1.RN h.1) (by rw [f1.2 40 (by omega)]; exact a1)
  have same : ∀ x y, x < y → y < 7 → mE.testBit x = true → mE.testBit y = true → (Mt t s1 x y ↔ Mm t u1 y x) := fun x y hxy hy hx' hy' => by
    unfold Mt Mm
    have h1 : u1.2 = τ.2 := k1.1
    rw [f1.1, h1, (a5 x y hxy hy hx' hy').1, (a5 x y hxy hy hx' hy').2, ans_sym i (a3 x hx') (a3 y hy') (by omega), ans_sym i (a3 x hx') (a3 y hy') (by omega)]
  have fin : ∀ (v : Bool) (u2 : Wd), FrM u1 u2 → (v = true ↔ ∀ x y, x < y → y < 7 → mE.testBit x = true → mE.testBit y = true → Mt t s1 x y) → f_X8_keeps N τ = some (bI v, u2) → Sim (f_X7_keeps N σ) (f_X8_keeps N τ) := by
    intro v u2 k2 hv hf
    refine ⟨bI v, s2, u2, ?_, hf, t, h.eq (f1.trans f2).eq ((EqM.thr τ 0).trans (k1.trans k2).eq)⟩
    unfold f_X7_keeps
    rw [e1, bS_s]
    rcases hs with ⟨q1, q2⟩ | ⟨⟨x, y, hxy, hy, hx', hy', hne⟩, q2⟩
    · have : v = true := hv.mpr (fun x y hxy hy hx' hy' => q1 x y (by omega) hxy hy hx' hy')
      rw [this]; exact q2
    · have : v = false := by
        cases v
        · rfl
        · exact absurd (hv.mp rfl x y hxy hy hx' hy') hne
      rw [this]; exact q2
  have h15 : u1.1 0 15 = nI mE := by rw [k1.2 0 (by omega) (by omega), sI_slot (by omega)]; exact a2
  have h14 : u1.1 0 14 = τ.1 0 14 := by rw [k1.2 0 (by omega) (by omega), sI_slot (by omega)]
  rcases a4 with ⟨z1, z2⟩ | z1
  · refine fin true u1 (FrM.rfl' u1) ⟨fun _ x y _ _ hx' _ => ?_, fun _ => rfl⟩ ?_
    · rw [z2] at hx'; simp at hx'
    · simp only [f_X8_keeps, wI]
      rw [g1, bS_s]
      obtain ⟨n, rfl⟩ : ∃ m, N = m + 1 := ⟨N - 1, by omega⟩
      rw [fl_X8_keeps_19]
      simp only [gI]
      rw [if_neg (show ¬ (7 : Int32) ≤ 0 by decide), h14, z1, if_pos rfl]
      rfl
  · obtain ⟨u2, v, e2, k2, hv⟩ := m_keeps19 (N := N) (K := fun v20 s21 => zb v20 (some (v20, s21))) i hN hm7 a3 7 0 N true u1 (by omega) (by omega) (k1.RM r0) h15 (h14.trans z1)
    refine fin v u2 k2 ?_ ?_
    · rw [hv]
      constructor
      · rintro ⟨-, q⟩ x y hxy hy hx' hy'
        exact (same x y hxy hy hx' hy').mpr (q y x (by omega) hy hxy hy' hx')
      · intro q
        exact ⟨rfl, fun a j _ ha hj ha' hj' => (same j a hj ha hj' ha').mp (q j a hj ha hj' ha')⟩
    · simp only [f_X8_keeps, wI]
      rw [g1, bS_s]
      refine Eq.trans e2 ?_
      rw [zb_bI]
end keeps2
