/-! CURRENT, POTENTIAL, POWER: class and reference. -/
section pows
variable {N : Nat} {t : Nt}
theorem v_pot5 {ρ : Type} {K : Int64 → Wd → Option ρ} (i : IN t) (hN : 100 ≤ N) {v : Nat → Int} {a : Nat} (ha : a < 7) : ∀ d k n (s : Wd), k + d = 7 → d < n → RN s t → (∀ j, j < 7 → (s.1 57 j).toInt = v j) →
    ∃ s', fl_X7_upperOfPotential_5 N (nI a) K n (lZ (smI (potT t v a) k)) (nI k) s = K (lZ (pot t v a)) s' ∧ FrC s s' := by
  intro d
  induction d with
  | zero =>
    intro k n s hk hn r hv
    obtain ⟨n, rfl⟩ : ∃ m, n = m + 1 := ⟨n - 1, by omega⟩
    have hk : k = 7 := by omega
    subst hk
    refine ⟨s, ?_, FrC.rfl' s⟩
    rw [fl_X7_upperOfPotential_5, lq7, if_pos (nI_le (Nat.le_refl _) (by omega))]
    rfl
  | succ d ih =>
    intro k n s hk hn r hv
    obtain ⟨n, rfl⟩ : ∃ m, n = m + 1 := ⟨n - 1, by omega⟩
    have e0 : smI (potT t v a) (k + 1) = smI (potT t v a) k + potT t v a k := rfl
    rw [fl_X7_upperOfPotential_5]
    simp (disch := omega) only [lq7, nI_leI, if_neg, jn_e, nI_1]
    rw [v_hasEdge r i, bP_s, if_bI0, inS_n (by omega)]
    cases hb : t.ed.testBit k
    · obtain ⟨s', e1, f1⟩ := ih (k + 1) n s (by omega) (by omega) r hv
      rw [e0, show potT t v a k = 0 from if_neg (fun z => by rw [hb] at z; exact absurd z (by decide)), Int.add_zero] at e1
      exact ⟨s', e1, f1⟩
    · obtain ⟨s1, e1, f1⟩ := v_countWith (N := N) r i hN i.ed7 (pc_mono i.edn) ha (show k < 7 by omega)
      obtain ⟨s', e2, f2⟩ := ih (k + 1) n s1 (by omega) (by omega) (f1.RN r) (fun j hj => by rw [f1.2 57 (by omega)]; exact hv j hj)
      refine ⟨s', ?_, f1.trans f2⟩
      rw [e0, show potT t v a k = v k * (cntC t t.ed a k : Int) from if_pos hb] at e2
      simp only [if_true]
      rw [v_valueOf (by omega), bP_s]
      simp only [gI]
      rw [r.ed, e1, bS_s, hv k (by omega), lN_lZ, lZ_mul]
      simp only [lL]
      rw [lZ_add]
      exact e2
theorem v_pow5 {ρ : Type} {K : Int64 → Wd → Option ρ} {x : Int32} (i : IN t) (hN : 100 ≤ N) {v : Nat → Int} : ∀ d k n (s : Wd), k + d = 7 → d < n → RN s t → (∀ j, j < 7 → (s.1 57 j).toInt = v j) →
    ∃ s', fl_X7_power_5 N x K n (lZ (smI (powT t v) k)) (nI k) s = K (lZ (pow' t v)) s' ∧ FrC s s' := by
  intro d
  induction d with
  | zero =>
    intro k n s hk hn r hv
    obtain ⟨n, rfl⟩ : ∃ m, n = m + 1 := ⟨n - 1, by omega⟩
    have hk : k = 7 := by omega
    subst hk
    refine ⟨s, ?_, FrC.rfl' s⟩
    rw [fl_X7_power_5, lq7, if_pos (nI_le (Nat.le_refl _) (by omega))]
    rfl
  | succ d ih =>
    intro k n s hk hn r hv
    obtain ⟨n, rfl⟩ : ∃ m, n = m + 1 := ⟨n - 1, by omega⟩
    have e0 : smI (powT t v) (k + 1) = smI (powT t v) k + powT t v k := rfl
    rw [fl_X7_power_5]
    simp (disch := omega) only [lq7, nI_leI, if_neg, jn_e, nI_1]
    rw [v_hasEdge r i, bP_s, if_bI0, inS_n (by omega)]
    cases hb : t.ed.testBit k
    · obtain ⟨s', e1, f1⟩ := ih (k + 1) n s (by omega) (by omega) r hv
      rw [e0, show powT t v k = 0 from if_neg (fun z => by rw [hb] at z; exact absurd z (by decide)), Int.add_zero] at e1
      exact ⟨s', e1, f1⟩
    · obtain ⟨s1, e1, f1⟩ := v_upperOfCurrent (N := N) r i hN (v := v) (show k < 7 by omega) hv
      obtain ⟨s', e2, f2⟩ := ih (k + 1) n s1 (by omega) (by omega) (f1.RN r) (fun j hj => by rw [f1.2 57 (by omega)]; exact hv j hj)
      refine ⟨s', ?_, f1.trans f2⟩
      rw [e0, show powT t v k = v k * cur t v k from if_pos hb] at e2
      simp only [if_true]
      rw [v_valueOf (by omega), bP_s, e1, bS_s, hv k (by omega), lZ_mul]
      simp only [lL]
      rw [lZ_add]
      exact e2
theorem m_pot55 {ρ : Type} {K : Int64 → Wd → Option ρ} {x : Int32} (i : IN t) (hN : 5000 ≤ N) {v : Nat → Int} {a : Nat} (ha : a < 7) : ∀ d k n (s : Wd), k + d = 7 → d < n → RM s t → (∀ j, j < 7 → (s.1 4 j).toInt = v j) →
    ∃ s', fl_X8_potential_55 N (nI a) x K n (lZ (smI (potT t v a) k)) (nI k) s = K (lZ (pot t v a)) s' ∧ FrM s s' := by
  intro d
  induction d with
  | zero =>
    intro k n s hk hn r hv
    obtain ⟨n, rfl⟩ : ∃ m, n = m + 1 := ⟨n - 1, by omega⟩
    have hk : k = 7 := by omega
    subst hk
    refine ⟨s, ?_, FrM.rfl' s⟩
    rw [fl_X8_potential_55, lq7, if_pos (nI_le (Nat.le_refl _) (by omega))]
    rfl
  | succ d ih =>
    intro k n s hk hn r hv
    obtain ⟨n, rfl⟩ : ∃ m, n = m + 1 := ⟨n - 1, by omega⟩
    have e0 : smI (potT t v a) (k + 1) = smI (potT t v a) k + potT t v a k := rfl
    rw [fl_X8_potential_55]
    simp (disch := omega) only [lq7, nI_leI, if_neg, jn_e, nI_1]
    rw [v_isEdge8 r i, bP_s, if_bI0, inS_n (by omega)]
    cases hb : t.ed.testBit k
    · obtain ⟨s', e1, f1⟩ := ih (k + 1) n s (by omega) (by omega) r hv
      rw [e0, show potT t v a k = 0 from if_neg (fun z => by rw [hb] at z; exact absurd z (by decide)), Int.add_zero] at e1
      refine ⟨s', ?_, f1⟩
      simp only [Bool.false_eq_true, if_false, lL]
      rw [show (0 : Int64) = lZ 0 from rfl, lZ_add, Int.add_zero]
      exact e1
    · obtain ⟨s1, e1, f1⟩ := m_with (N := N) r i hN ha (show k < 7 by omega)
      obtain ⟨s', e2, f2⟩ := ih (k + 1) n s1 (by omega) (by omega) (f1.RM r) (fun j hj => by rw [f1.2 4 (by omega) (by omega)]; exact hv j hj)
      refine ⟨s', ?_, f1.trans f2⟩
      rw [e0, show potT t v a k = v k * (cntC t t.ed a k : Int) from if_pos hb] at e2
      simp only [if_true]
      rw [rI_n (by omega) (by omega), e1, bS_s, i64_lZ, hv k (by omega), lN_lZ, lZ_mul]
      simp only [lL]
      rw [lZ_add]
      exact e2
theorem m_pow10 {ρ : Type} {K : Int64 → Wd → Option ρ} {x : Int32} (i : IN t) (hN : 5000 ≤ N) {v : Nat → Int} (hb' : ∀ j, j < 7 → -99 ≤ v j ∧ v j ≤ 99) : ∀ d k n (s : Wd), k + d = 7 → d < n → RM s t → (∀ j, j < 7 → (s.1 4 j).toInt = v j) →
    ∃ s', fl_X8_power_10 N x K n (lZ (smI (powT t v) k)) (nI k) s = K (lZ (pow' t v)) s' ∧ FrM s s' := by
  intro d
  induction d with
  | zero =>
    intro k n s hk hn r hv
    obtain ⟨n, rfl⟩ : ∃ m, n = m + 1 := ⟨n - 1, by omega⟩
    have hk : k = 7 := by omega
    subst hk
    refine ⟨s, ?_, FrM.rfl' s⟩
    rw [fl_X8_power_10, lq7, if_pos (nI_le (Nat.le_refl _) (by omega))]
    rfl
  | succ d ih =>
    intro k n s hk hn r hv
    obtain ⟨n, rfl⟩ : ∃ m, n = m + 1 := ⟨n - 1, by omega⟩
    have e0 : smI (powT t v) (k + 1) = smI (powT t v) k + powT t v k := rfl
    rw [fl_X8_power_10]
    simp (disch := omega) only [lq7, nI_leI, if_neg, jn_e, nI_1]
    rw [v_isEdge8 r i, bP_s, if_bI0, inS_n (by omega)]
    cases hb : t.ed.testBit k
    · obtain ⟨s', e1, f1⟩ := ih (k + 1) n s (by omega) (by omega) r hv
      rw [e0, show powT t v k = 0 from if_neg (fun z => by rw [hb] at z; exact absurd z (by decide)), Int.add_zero] at e1
      refine ⟨s', ?_, f1⟩
      simp only [Bool.false_eq_true, if_false, lL]
      rw [show (0 : Int64) = lZ 0 from rfl, lZ_add, Int.add_zero]
      exact e1
    · obtain ⟨s1, e1, f1⟩ := m_currentTimes (N := N) r i hN hb' hb hv
      obtain ⟨s', e2, f2⟩ := ih (k + 1) n s1 (by omega) (by omega) (f1.RM r) (fun j hj => by rw [f1.2 4 (by omega) (by omega)]; exact hv j hj)
      refine ⟨s', ?_, f1.trans f2⟩
      rw [e0, show powT t v k = v k * cur t v k from if_pos hb] at e2
      simp only [if_true]
      rw [rI_n (by omega) (by omega), e1, bS_s, i64_lZ, hv k (by omega), lZ_mul]
      simp only [lL]
      rw [lZ_add]
      exact e2
variable {σ τ : Wd}
theorem RT.vb (h : RT σ τ t) : ∀ j, j < 7 → -99 ≤ vl τ j ∧ vl τ j ≤ 99 := fun j hj => (h.2.2.2.1 j hj).2.1
theorem RT.vc (h : RT σ τ t) : ∀ j, j < 7 → (σ.1 57 j).toInt = vl τ j := fun j hj => by rw [(h.2.2.2.1 j hj).1]; rfl
theorem sim_current (h : RT σ τ t) (hN : 5000 ≤ N) (x b : Int32) : SimX id (f_X7_current N σ x b) (f_X8_current N τ x b) := by
  have i := h.2.2.1
  have h7 := i.ed7
  unfold f_X7_current f_X8_current
  rw [v_needEdge h.1 i, v_isEdge8 h.2.1 i]
  simp only [bP_s, jn_e, wI, gI, thr_0, if_bI0]
  cases hx : inS t.ed x
  · exact ⟨σ, sI τ 0 0 1, ⟨t, h.eq (EqC.rfl' σ) (EqM.thr τ 1)⟩, Or.inl ⟨1, 0, Or.inl rfl, rfl, rfl, thr_0 _ _⟩⟩
  · simp only [if_true, bX]
    rw [if_pos (show (0 : Int32) ≤ 0 by decide)]
    obtain ⟨a, ha, rfl, hab⟩ := inS_elim (n := 7) h7 (by omega) hx
    have hτ : ∀ j, j < 7 → ((sI τ 0 0 0).1 4 j).toInt = vl τ j := fun j _ => by rw [sI_place (by omega)]; rfl
    obtain ⟨s1, e1, f1⟩ := v_upperOfCurrent (N := N) h.1 i (by omega) ha h.vc
    obtain ⟨s2, e2, f2⟩ := v_countRest (N := N) (f1.RN h.1) i (by omega)
    obtain ⟨u1, g1, k1⟩ := m_currentTimes (N := N) ((EqM.thr τ 0).RM h.2.1) i hN h.vb hab hτ
    obtain ⟨u2, g2, k2⟩ := m_rest (N := N) (k1.RM ((EqM.thr τ 0).RM h.2.1)) i hN
    obtain ⟨b1, b1'⟩ := cur_63 i h.vb hab
    have b2 := cnt_lt i t.ed 0 0
    refine ⟨s2, u2, ⟨t, h.eq (f1.eq.trans f2.eq) ((EqM.thr τ 0).trans (k1.eq.trans k2.eq))⟩, Or.inr ⟨prt (cur t (vl τ) a) (cntC t t.ed 0 0) b, ?_, ?_, thrK (k1.trans k2)⟩⟩
    · rw [e1, bS_s, e2, bS_s, v_partOf (by omega) b1 b1' (by omega), bP_s]
    · rw [g1, bS_s, g2, bS_s, v_part (by omega) b1 b1' (by omega), bP_s]
theorem sim_power (h : RT σ τ t) (hN : 5000 ≤ N) (b : Int32) : Sim (f_X7_power N σ b) (f_X8_power N τ b) := by
  have i := h.2.2.1
  have hτ : ∀ j, j < 7 → ((sI τ 0 0 0).1 4 j).toInt = vl τ j := fun j _ => by rw [sI_place (by omega)]; rfl
  obtain ⟨s1, e1, f1⟩ := v_pow5 (N := N) (x := b) (K := fun v8 s9 => bS (f_X7_countRest N s9) fun v10 s11 => bP (f_X7_partOf N v8 v10 b) fun v12 => some (v12, s11)) i (by omega) 7 0 N σ (by omega) (by omega) h.1 h.vc
  obtain ⟨s2, e2, f2⟩ := v_countRest (N := N) (f1.RN h.1) i (by omega)
  obtain ⟨u1, g1, k1⟩ := m_pow10 (N := N) (x := b) (K := fun v9 s10 => bS (f_X8_counts N s10 1 0 0 0) fun v11 s12 => bP (f_X8_part N v9 v11 b) fun v13 => some (v13, s12)) i hN h.vb 7 0 N (sI τ 0 0 0) (by omega) (by omega) ((EqM.thr τ 0).RM h.2.1) hτ
  obtain ⟨u2, g2, k2⟩ := m_rest (N := N) (k1.RM ((EqM.thr τ 0).RM h.2.1)) i hN
  obtain ⟨b1, b1'⟩ := pow_63 i h.vb
  have b2 := cnt_lt i t.ed 0 0
  refine ⟨prt (pow' t (vl τ)) (cntC t t.ed 0 0) b, s2, u2, ?_, ?_, t, h.eq (f1.eq.trans f2.eq) ((EqM.thr τ 0).trans (k1.eq.trans k2.eq))⟩
  · unfold f_X7_power
    refine Eq.trans e1 ?_
    rw [e2, bS_s, v_partOf (by omega) b1 b1' (by omega), bP_s]
  · simp only [f_X8_power, wI]
    refine Eq.trans g1 ?_
    rw [g2, bS_s, v_part (by omega) b1 b1' (by omega), bP_s]
theorem sim_potential (h : RT σ τ t) (hN : 5000 ≤ N) (x b : Int32) : SimX id (f_X7_potential N σ x b) (f_X8_potential N τ x b) := by
  have i := h.2.2.1
  have h7 := i.nd7
  unfold f_X7_potential f_X8_potential
  rw [v_needNode h.1 i, v_isNode8 h.2.1 i]
  simp only [bP_s, jn_e, wI, gI, thr_0, if_bI0]
  cases hx : inS t.nd x
  · exact ⟨σ, sI τ 0 0 1, ⟨t, h.eq (EqC.rfl' σ) (EqM.thr τ 1)⟩, Or.inl ⟨1, 0, Or.inl rfl, rfl, rfl, thr_0 _ _⟩⟩
  · simp only [if_true, bX]
    rw [if_pos (show (0 : Int32) ≤ 0 by decide)]
    obtain ⟨a, ha, rfl, hab⟩ := inS_elim (n := 7) h7 (by omega) hx
    have hτ : ∀ j, j < 7 → ((sI τ 0 0 0).1 4 j).toInt = vl τ j := fun j _ => by rw [sI_place (by omega)]; rfl
    rw [v_hasEdge h.1 i, bP_s, if_bI0, v_isEdge8 ((EqM.thr τ 0).RM h.2.1) i, bP_s, if_bI0]
    cases hb : inS t.ed (nI a)
    · simp only [Bool.false_eq_true, if_false]
      obtain ⟨s1, e1, f1⟩ := v_pot5 (N := N) (K := fun v9 s10 => some (v9, s10)) i (by omega) ha 7 0 N σ (by omega) (by omega) h.1 h.vc
      obtain ⟨s2, e2, f2⟩ := v_countRest (N := N) (f1.RN h.1) i (by omega)
      obtain ⟨u1, g1, k1⟩ := m_pot55 (N := N) (x := b) (K := fun v13 s14 => bS (f_X8_counts N s14 1 0 0 0) fun v15 s16 => bP (f_X8_part N v13 v15 b) fun v17 => some (v17, s16)) i hN ha 7 0 N (sI τ 0 0 0) (by omega) (by omega) ((EqM.thr τ 0).RM h.2.1) hτ
      obtain ⟨u2, g2, k2⟩ := m_rest (N := N) (k1.RM ((EqM.thr τ 0).RM h.2.1)) i hN
      obtain ⟨b1, b1'⟩ := pot_63 i h.vb a
      have b2 := cnt_lt i t.ed 0 0
      refine ⟨s2, u2, ⟨t, h.eq (f1.eq.trans f2.eq) ((EqM.thr τ 0).trans (k1.eq.trans k2.eq))⟩, Or.inr ⟨prt (pot t (vl τ) a) (cntC t t.ed 0 0) b, ?_, ?_, thrK (k1.trans k2)⟩⟩
      · have e1' : f_X7_upperOfPotential N σ (nI a) = some (lZ (pot t (vl τ) a), s1) := e1
        rw [e1', bS_s, e2, bS_s, v_partOf (by omega) b1 b1' (by omega), bP_s]
      · refine Eq.trans g1 ?_
        rw [g2, bS_s, v_part (by omega) b1 b1' (by omega), bP_s]
    · simp only [if_true]
      have hb1 := h.vb a ha
      refine ⟨σ, sI τ 0 0 0, ⟨t, h.eq (EqC.rfl' σ) (EqM.thr τ 0)⟩, Or.inr ⟨if b = 0 then lZ (vl τ a) else 1, ?_, ?_, thr_0 _ _⟩⟩
      · rw [v_valueOf ha, bP_s, h.vc a ha, show (1 : Int64) = lN 1 from rfl, v_partOf (by omega) (by omega) (by omega) (by omega), bP_s]
        have hg : lN (Nat.gcd 1 (vl τ a).natAbs) = 1 := by rw [Nat.gcd_one_left]; rfl
        unfold prt
        rw [if_neg (by omega), hg]
        have d1 : ∀ z : Int64, z / 1 = z := fun z => Int64.div_one
        rw [d1]
      · by_cases q : b = 0
        · rw [if_pos q, if_pos q, rI_n ha (by omega), i64_lZ, hτ a ha]
        · rw [if_neg q, if_neg q]
end pows
