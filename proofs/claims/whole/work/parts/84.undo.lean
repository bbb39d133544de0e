/-! UNDO. -/
section undo
variable {N : Nat} {σ τ : Wd} {t : Nt}
theorem m_undo103 {ρ : Type} {K : Wd → Option ρ} {q : Nat} (hq : q ≤ 1400) : ∀ d k n (s : Wd), k + d = 20 → d < n →
    ∃ s', fl_X8_undo_103 N (nI q) K n (nI k) s = K s' ∧ (∀ w, k ≤ w → w < 20 → s'.1 3 w = s.1 5 (q + 5 + w)) ∧ (∀ w, w < k → s'.1 3 w = s.1 3 w) ∧ (∀ p, p ≠ 3 → s'.1 p = s.1 p) ∧ s'.2 = s.2 := by
  intro d
  induction d with
  | zero =>
    intro k n s hk hn
    obtain ⟨n, rfl⟩ : ∃ m, n = m + 1 := ⟨n - 1, by omega⟩
    refine ⟨s, ?_, fun w h1 h2 => by omega, fun w _ => rfl, fun p _ => rfl, rfl⟩
    rw [fl_X8_undo_103]
    simp (disch := omega) only [lq20, nI_leI, if_pos]
  | succ d ih =>
    intro k n s hk hn
    obtain ⟨n, rfl⟩ : ∃ m, n = m + 1 := ⟨n - 1, by omega⟩
    obtain ⟨s', e1, g1, g2, g3, g4⟩ := ih (k + 1) n (sI s 3 k (s.1 5 (q + 5 + k))) (by omega) (by omega)
    refine ⟨s', ?_, fun w h1 h2 => ?_, fun w h => ?_, fun p hp => ?_, g4⟩
    · rw [fl_X8_undo_103]
      simp (disch := omega) only [lq20, show (5 : Int32) = nI 5 from rfl, nI_leI, if_neg, nI_add, rI_n, aI_n, nI_1]
      exact e1
    · by_cases e : w = k
      · subst e; rw [g2 w (by omega), sI_same]
      · rw [g1 w (by omega) h2, sI_place (by omega)]
    · rw [g2 w (by omega), sI_slot (by omega)]
    · rw [g3 p hp, sI_place hp]
theorem v_setCond {w : Nat} {v : Int32} (hw : w < 20) : f_X4_setConductance N σ (nI w) v = some (sI σ 4 w v) := by
  unfold f_X4_setConductance
  simp (disch := omega) only [lt0, if_false, lq20, nI_leI, if_neg, aI_n]
theorem v_setCond1 {v : Int32} : f_X4_setConductance N σ (-1) v = some σ := by
  unfold f_X4_setConductance
  rw [if_pos (by decide)]
theorem sim_undo (h : RT σ τ t) (hN : 5000 ≤ N) : SimX m31 (f_X7_undo N σ) (f_X8_undo N τ) := by
  obtain ⟨h1, h2, i, h4, ⟨mE, a1, a2, a3, a4, a5⟩, m, sn, k1, k2, k3, k4⟩ := id h
  have hw := i.nW
  have hm : m ≤ 18 := by omega
  have hhow : ∀ s : Wd, f_X3_howMany N s = some (s.1 28 9) := fun s => rfl
  unfold f_X7_undo f_X8_undo
  rw [hhow, bP_s, k1]
  simp only [gI, jn_e, wI, thr_0, k2]
  by_cases q : m = 0
  · rw [q, if_pos (show nI 0 = 0 from rfl), if_pos (show nI 0 = 0 from rfl), if_neg (show ¬ (1 : Int32) ≤ 0 by decide)]
    exact ⟨σ, sI τ 0 0 1, ⟨t, h.eq (EqC.rfl' σ) (EqM.thr τ 1)⟩, Or.inl ⟨3, 0, Or.inr (Or.inr rfl), rfl, rfl, thr_0 _ _⟩⟩
  · obtain ⟨j, rfl⟩ : ∃ j, m = j + 1 := ⟨m - 1, by omega⟩
    have hne : ¬ nI (j + 1) = 0 := fun z => q ((nI_eq (b := 0) (by omega) (by omega)).mp z)
    rw [if_neg hne, if_neg hne, if_pos (show (0 : Int32) ≤ 0 by decide)]
    obtain ⟨b1, b2, ⟨c1, c2, c3, c4⟩, ⟨d1, d2, d3, d4, d5, d6⟩, b5⟩ := k4 j (by omega)
    rw [if_neg (by omega)] at b5
    obtain ⟨st1, st2⟩ := b5
    have nWb := b2.nW
    have hsnW : (sn j).nW ≤ 20 := nWb
    -- the class
    have hcl : ∃ s', f_X3_takeBack N σ = some s' ∧ RN s' ((sn j).at t) ∧ s'.1 28 9 = nI j ∧ (∀ p, 34 ≤ p → s'.1 p = σ.1 p) ∧ s'.2 = σ.2 := by
      unfold f_X3_takeBack
      simp only [gI, wI, k1]
      rw [if_neg (show ¬ nI (j + 1) ≤ 0 from nI_nle (by omega) (by omega)), if_pos (show nI (j + 1) ≤ 20 from nI_le (b := 20) (by omega) (by omega)), nI_pred]
      simp (disch := omega) only [sI_same, sI_place, sI_slot, rI_n, c1, c2, c3, c4, k1]
      have base : ∀ s : Wd, s.1 1 0 = nI (sn j).nd → s.1 1 1 = σ.1 1 1 → s.1 1 2 = nI (sn j).wr → s.1 1 3 = nI (sn j).nN → s.1 1 4 = nI (sn j).nW → s.1 2 = σ.1 2 → s.1 3 = σ.1 3 → (∀ w, w < (sn j).nW → s.1 4 w = nI ((sn j).c w)) → RN s ((sn j).at t) := fun s q0 q1 q2 q3 q4 q5 q6 q7 =>
        ⟨q0, q1.trans h1.ed, q2, q3, q4, fun w hw => by rw [q5]; exact h1.f w hw, fun w hw => by rw [q6]; exact h1.s w hw, q7⟩
      rcases st2 with ⟨e1, e2⟩ | ⟨w0, hw0, e1, e2, e3⟩
      · rw [e1, v_setCond1, bP_s]
        refine ⟨_, rfl, base _ ?_ ?_ ?_ ?_ ?_ ?_ ?_ (fun w hw => ?_), ?_, fun p hp => ?_, rfl⟩
        · simp (disch := omega) only [sI_same, sI_slot, sI_place]
        · simp (disch := omega) only [sI_same, sI_slot, sI_place]
        · simp (disch := omega) only [sI_same, sI_slot, sI_place]
        · simp (disch := omega) only [sI_same, sI_slot, sI_place]
        · simp (disch := omega) only [sI_same, sI_slot, sI_place]
        · simp (disch := omega) only [sI_same, sI_slot, sI_place]
        · simp (disch := omega) only [sI_same, sI_slot, sI_place]
        · simp (disch := omega) only [sI_same, sI_slot, sI_place]
          rw [e2 w hw]; exact h1.c w (by omega)
        · simp (disch := omega) only [sI_same, sI_slot, sI_place]
        · simp (disch := omega) only [sI_same, sI_slot, sI_place]
      · rw [e1, v_setCond (by omega), bP_s]
        refine ⟨_, rfl, base _ ?_ ?_ ?_ ?_ ?_ ?_ ?_ (fun w hw => ?_), ?_, fun p hp => ?_, rfl⟩
        · simp (disch := omega) only [sI_same, sI_slot, sI_place]
        · simp (disch := omega) only [sI_same, sI_slot, sI_place]
        · simp (disch := omega) only [sI_same, sI_slot, sI_place]
        · simp (disch := omega) only [sI_same, sI_slot, sI_place]
        · simp (disch := omega) only [sI_same, sI_slot, sI_place]
        · simp (disch := omega) only [sI_same, sI_slot, sI_place]
        · simp (disch := omega) only [sI_same, sI_slot, sI_place]
        · by_cases e : w = w0
          · subst e; rw [sI_same, e2]
          · simp (disch := omega) only [sI_same, sI_slot, sI_place]
            rw [e3 w hw e]; exact h1.c w (by omega)
        · simp (disch := omega) only [sI_same, sI_slot, sI_place]
        · simp (disch := omega) only [sI_same, sI_slot, sI_place]
    obtain ⟨s', e1, rn, g1, g2, g3⟩ := hcl
    rw [e1, bP_s, hhow, bP_s, g1]
    -- the reference
    simp (disch := omega) only [sI_same, sI_slot, sI_place, k2, nI_pred, lI]
    simp (disch := omega) only [sI_same, sI_slot, sI_place, show (25 : Int32) = nI 25 from rfl, pk_mul, lq1, lq2, lq3, show (4 : Int32) = nI 4 from rfl, nI_add, rI_n, d1, d2, d3, d4, d5]
    obtain ⟨u1, l1, n1, n2, n3, n4⟩ := m_undo103 (N := N) (q := 25 * j) (K := fun s21 => some (s21.1 0 10, s21)) (by omega) 20 0 N (sI (sI (sI (sI (sI (sI (sI τ 0 0 0) 0 10 (nI j)) 0 2 (nI (sn j).nd)) 0 3 (nI t.ed)) 0 1 (nI (sn j).nN)) 0 5 (nI (sn j).wr)) 0 4 (nI (sn j).nW)) (by omega) (by omega)
    have u0 : ∀ k, u1.1 0 k = (sI (sI (sI (sI (sI (sI (sI τ 0 0 0) 0 10 (nI j)) 0 2 (nI (sn j).nd)) 0 3 (nI t.ed)) 0 1 (nI (sn j).nN)) 0 5 (nI (sn j).wr)) 0 4 (nI (sn j).nW)).1 0 k := fun k => by rw [n3 0 (by omega)]
    have up : ∀ p, p ≠ 0 → p ≠ 3 → u1.1 p = τ.1 p := fun p hp hq => by rw [n3 p hq]; simp (disch := omega) only [sI_place]
    refine ⟨s', u1, ⟨(sn j).at t, rn, ?_, b2, fun x hx => ?_, ⟨mE, ?_, ?_, a3, ?_, fun x y hxy hy hx' hy' => ?_⟩, j, sn, g1, ?_, b1, fun x hx => ?_⟩, Or.inr ⟨nI j, rfl, ?_, ?_⟩⟩
    · refine ⟨?_, ?_, ?_, ?_, ?_, fun w hw => ?_, fun w hw => ?_, fun w hw => ?_⟩
      · rw [u0]; simp (disch := omega) only [sI_same, sI_slot]; rfl
      · rw [u0]; simp (disch := omega) only [sI_same, sI_slot]; rfl
      · rw [u0]; simp (disch := omega) only [sI_same, sI_slot]; rfl
      · rw [u0]; simp (disch := omega) only [sI_same, sI_slot]; rfl
      · rw [u0]; simp (disch := omega) only [sI_same, sI_slot]; rfl
      · rw [up 1 (by omega) (by omega)]; exact h2.f w hw
      · rw [up 2 (by omega) (by omega)]; exact h2.s w hw
      · rw [n1 w (by omega) hw]; simp (disch := omega) only [sI_place]; exact d6 w hw
    · rw [g2 57 (by omega), up 4 (by omega) (by omega)]; exact h4 x hx
    · rw [g2 40 (by omega)]; exact a1
    · rw [u0]; simp (disch := omega) only [sI_slot]; exact a2
    · rw [u0]; simp (disch := omega) only [sI_slot]; exact a4
    · rw [g3, n4]; exact a5 x y hxy hy hx' hy'
    · rw [u0]; simp (disch := omega) only [sI_same, sI_slot]
    · obtain ⟨y1, y2, y3, y4, y5⟩ := k4 x (by omega)
      rw [if_pos (by omega)] at y5
      have ks : ∀ z nW c, KStp σ x z nW c → KStp s' x z nW c := fun z nW c q => by
        unfold KStp at *
        rw [g2 38 (by omega), g2 39 (by omega)]; exact q
      refine ⟨y1, y2, ?_, ?_, ?_⟩
      · rw [g2 34 (by omega), g2 35 (by omega), g2 36 (by omega), g2 37 (by omega)]; exact y3
      · rw [up 5 (by omega) (by omega)]; exact y4
      · by_cases q : x + 1 < j
        · rw [if_pos q]; exact ks _ _ _ y5
        · rw [if_neg q]
          have e : x + 1 = j := by omega
          rw [e] at y5
          exact ks _ _ _ y5
    · refine Eq.trans l1 ?_
      rw [u0]; simp (disch := omega) only [sI_same, sI_slot]
    · rw [u0]; simp (disch := omega) only [sI_same, sI_slot]; rfl
end undo
