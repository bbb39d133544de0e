/-! CURRENT, POTENTIAL, POWER: class and reference. -/
section pows
variable {N : Nat} {t : Nt}
theorem v_pot5 {ρ : Type} {K : Int64 → Wd → Option ρ} (i : IN t) (hN : 100 ≤ N) {v : Nat → Int} {a : Nat} (ha : a < 7) : ∀ d k n (s : Wd), k + d = 7 → d < n → RN s t → (∀ j, j < 7 → (s.1 57 j).toInt = v j) →
    ∃ s', fl_X7_upperOfPotential_5 N (nI a) K n (lZ (smI (potT t v a) k)) (nI k) s = K (lZ (pot t v a)) s' ∧ FrC s s' := by
  intro d
  induction d with
  | zero =>
    intro k n s hk hn r hv
    obtain ⟨n, rfl⟩ : ∃ m, n = m + 1 := ⟨n - 1, by omega⟩
    have hk : k = 7 := by omega
    subst hk
    refine ⟨s, ?_, FrC.rfl' s⟩
    rw [fl_X7_upperOfPotential_5, lq7, if_pos (nI_le (Nat.le_refl _) (by omega))]
    rfl
  | succ d ih =>
    intro k n s hk hn r hv
    obtain ⟨n, rfl⟩ : ∃ m, n = m + 1 := ⟨n - 1, by omega⟩
    have e0 : smI (potT t v a) (k + 1) = smI (potT t v a) k + potT t v a k := rfl
    rw [fl_X7_upperOfPotential_5]
    simp (disch := omega) only [lq7, nI_leI, if_neg, jn_e, nI_1]
    rw [v_hasEdge r i, bP_s, if_bI0, inS_n (by omega)]
    cases hb : t.ed.testBit k
    · obtain ⟨s', e1, f1⟩ := ih (k + 1) n s (by omega) (by omega) r hv
      rw [e0, show potT t v a k = 0 from if_neg (fun z => by rw [hb] at z; exact absurd z (by decide)), Int.add_zero] at e1
      exact ⟨s', e1, f1⟩
    · obtain ⟨s1, e1, f1⟩ := v_countWith (N := N) r i hN i.ed7 (pc_mono i.edn) ha (show k < 7 by omega)
      obtain ⟨s', e2, f2⟩ := ih (k + 1) n s1 (by omega) (by omega) (f1.RN r) (fun j hj => by rw [f1.2 57 (by omega)]; exact hv j hj)
      refine ⟨s', ?_, f1.trans f2⟩
      rw [e0, show potT t v a k = v k * (cntC t t.ed a k : Int) from if_pos hb] at e2
      simp only [if_true]
      rw [v_valueOf (by omega), bP_s]
      simp only [gI]
      rw [r.ed, e1, bS_s, hv k (by omega), lN_lZ, lZ_mul]
      simp only [lL]
      rw [lZ_add]
      exact e2
theorem v_pow5 {ρ : Type} {K : Int64 → Wd → Option ρ} {x : Int32} (i : IN t) (hN : 100 ≤ N) {v : Nat → Int} : ∀ d k n (s : Wd), k + d = 7 → d < n → RN s t → (∀ j, j < 7 → (s.1 57 j).toInt = v j) →
    ∃ s', fl_X7_power_5 N x K n (lZ (smI (powT t v) k)) (nI k) s = K (lZ (pow' t v)) s' ∧ FrC s s' := by
  intro d
  induction d with
  | zero =>
    intro k n s hk hn r hv
    obtain ⟨n, rfl⟩ : ∃ m, n = m + 1 := ⟨n - 1, by omega⟩
    have hk : k = 7 := by omega
    subst hk
    refine ⟨s, ?_, FrC.rfl' s⟩
    rw [fl_X7_power_5, lq7, if_pos (nI_le (Nat.le_refl _) (by omega))]
    rfl
  | succ d ih =>
    intro k n s hk hn r hv
    obtain ⟨n, rfl⟩ : ∃ m, n = m + 1 := ⟨n - 1, by omega⟩
    have e0 : smI (powT t v) (k + 1) = smI (powT t v) k + powT t v k := rfl
    rw [fl_X7_power_5]
    simp (disch := omega) only [lq7, nI_leI, if_neg, jn_e, nI_1]
    rw [v_hasEdge r i, bP_s, if_bI0, inS_n (by omega)]
    cases hb : t.ed.testBit k
    · obtain ⟨s', e1, f1⟩ := ih (k + 1) n s (by omega) (by omega) r hv
      rw [e0, show powT t v k = 0 from if_neg (fun z => by rw [hb] at z; exact absurd z (by decide)), Int.add_zero] at e1
      exact ⟨s', e1, f1⟩
    · obtain ⟨s1, e1, f1⟩ := v_upperOfCurrent (N := N) r i hN (v := v) (show k < 7 by omega) hv
      obtain ⟨s', e2, f2⟩ := ih (k + 1) n s1 (by omega) (by omega) (f1.RN r) (fun j hj => by rw [f1.2 57 (by omega)]; exact hv j hj)
      refine ⟨s', ?_, f1.trans f2⟩
      rw [e0, show powT t v k = v k * cur t v k from if_pos hb] at e2
      simp only [if_true]
      rw [v_valueOf (by omega), bP_s, e1, bS_s, hv k (by omega), lZ_mul]
      simp only [lL]
      rw [lZ_add]
      exact e2
variable {σ τ : Wd}
end pows
