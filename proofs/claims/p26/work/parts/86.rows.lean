/-! THE ROWS OF THE NODES, all but the lowest one. -/
def pR (t : Nt) (l i : Nat) : Bool := !(i == l) && t.nd.testBit i
def rwI (t : Nt) (l j : Nat) : Int32 := if pR t l j then nI (fb_ct (pR t l) j) else -1
section rows
variable {N : Nat} {t : Nt}
theorem v_nR4 {ρ : Type} {K : Int32 → Wd → Option ρ} (i : IN t) {l : Nat} (hl : l < 7) : ∀ d k n (s : Wd), k + d = 7 → d < n → RN s t →
    ∃ s', fl_X2_numberRows_4 N (nI l) K n (nI (fb_ct (pR t l) k)) (nI k) s = K (nI (fb_ct (pR t l) 7)) s' ∧ (∀ j, k ≤ j → j < 7 → s'.1 17 j = rwI t l j) ∧ (∀ j, j < k → s'.1 17 j = s.1 17 j) ∧ (∀ q, q ≠ 17 → s'.1 q = s.1 q) ∧ s'.2 = s.2 := by
  intro d
  induction d with
  | zero =>
    intro k n s hk hn r
    obtain ⟨n, rfl⟩ : ∃ m, n = m + 1 := ⟨n - 1, by omega⟩
    have hk : k = 7 := by omega
    subst hk
    refine ⟨s, ?_, fun j h1 h2 => by omega, fun j _ => rfl, fun q _ => rfl, rfl⟩
    rw [fl_X2_numberRows_4, lq7, if_pos (nI_le (Nat.le_refl _) (by omega))]
  | succ d ih =>
    intro k n s hk hn r
    obtain ⟨n, rfl⟩ : ∃ m, n = m + 1 := ⟨n - 1, by omega⟩
    have hp : pR t l k = (!(k == l) && t.nd.testBit k) := rfl
    have hs : fb_ct (pR t l) (k + 1) = fb_ct (pR t l) k + (if pR t l k then 1 else 0) := rfl
    have no : pR t l k = false → ∃ s', fl_X2_numberRows_4 N (nI l) K n (nI (fb_ct (pR t l) k)) (nI (k + 1)) (sI s 17 k (-1)) = K (nI (fb_ct (pR t l) 7)) s' ∧ (∀ j, k ≤ j → j < 7 → s'.1 17 j = rwI t l j) ∧ (∀ j, j < k → s'.1 17 j = s.1 17 j) ∧ (∀ q, q ≠ 17 → s'.1 q = s.1 q) ∧ s'.2 = s.2 := fun hq => by
      obtain ⟨s', e1, g1, g2, g3, g4⟩ := ih (k + 1) n (sI s 17 k (-1)) (by omega) (by omega) (r.same (fun p _ _ => sI_place (by omega)))
      rw [hs, hq] at e1
      refine ⟨s', e1, fun j h1 h2 => ?_, fun j h => ?_, fun q hq => ?_, g4⟩
      · by_cases e : j = k
        · subst e; rw [g2 j (by omega), sI_same]; unfold rwI; rw [hq]; rfl
        · exact g1 j (by omega) h2
      · rw [g2 j (by omega), sI_slot (by omega)]
      · rw [g3 q hq, sI_place hq]
    rw [fl_X2_numberRows_4]
    simp (disch := omega) only [lq7, nI_leI, if_neg, aI_n, jn_e, nI_1, nI_eq]
    by_cases q : k = l
    · rw [if_pos q]
      exact no (by rw [hp, beq_iff_eq.mpr q]; rfl)
    · have r1 : RN (sI s 17 k (-1)) t := r.same (fun p _ _ => sI_place (by omega))
      rw [if_neg q, v_hasNode r1 i, bP_s, if_bI0, inS_n (by omega)]
      rcases Bool.eq_false_or_eq_true (t.nd.testBit k) with hb | hb
      · rw [if_pos hb]
        have hq : pR t l k = true := by rw [hp, hb, beq_false_of_ne q]; rfl
        obtain ⟨s', e1, g1, g2, g3, g4⟩ := ih (k + 1) n (sI (sI s 17 k (-1)) 17 k (nI (fb_ct (pR t l) k))) (by omega) (by omega) (r1.same (fun p _ _ => sI_place (by omega)))
        rw [hs, hq] at e1
        refine ⟨s', e1, fun j h1 h2 => ?_, fun j h => ?_, fun q hq => ?_, g4⟩
        · by_cases e : j = k
          · subst e; rw [g2 j (by omega), sI_same]; unfold rwI; rw [hq]; rfl
          · exact g1 j (by omega) h2
        · rw [g2 j (by omega), sI_slot (by omega), sI_slot (by omega)]
        · rw [g3 q hq, sI_place hq, sI_place hq]
      · rw [if_neg (by rw [hb]; decide)]
        exact no (by rw [hp, hb]; simp)
/-- all rows at 0 -/
theorem v_cR10 {ρ : Type} {K : Wd → Option ρ} {e : Nat} (he : e < 7) : ∀ d k n (s : Wd), k + d = 7 → d < n →
    ∃ s', fl_X2_clearRows_10 N (nI e) K n (nI k) s = K s' ∧ (∀ j, k ≤ j → j < 7 → s'.2 (19 + e) j = 0) ∧ (∀ p j, p ≠ 19 + e ∨ j < k → s'.2 p j = s.2 p j) ∧ s'.1 = s.1 := by
  intro d
  induction d with
  | zero =>
    intro k n s hk hn
    obtain ⟨n, rfl⟩ : ∃ m, n = m + 1 := ⟨n - 1, by omega⟩
    refine ⟨s, ?_, fun j h1 h2 => by omega, fun p j _ => rfl, rfl⟩
    rw [fl_X2_clearRows_10, show k = 7 by omega, lq7, if_pos (nI_le (Nat.le_refl _) (by omega))]
  | succ d ih =>
    intro k n s hk hn
    obtain ⟨n, rfl⟩ : ∃ m, n = m + 1 := ⟨n - 1, by omega⟩
    obtain ⟨s', e1, g1, g2, g3⟩ := ih (k + 1) n (sL s (19 + e) k 0) (by omega) (by omega)
    refine ⟨s', ?_, fun j h1 h2 => ?_, fun p j h => ?_, g3⟩
    · rw [fl_X2_clearRows_10]
      simp (disch := omega) only [lq7, nI_leI, if_neg, rR_n, aL_n, nI_1]
      exact e1
    · by_cases z : j = k
      · subst z; rw [g2 _ _ (Or.inr (by omega)), sL_same]
      · exact g1 j (by omega) h2
    · rw [g2 p j (by omega), sL_at, if_neg (by omega)]
theorem v_cR2 {ρ : Type} {K : Wd → Option ρ} (hN : 100 ≤ N) : ∀ d e n (s : Wd), e + d = 7 → d < n →
    ∃ s', fl_X2_clearRows_2 N K n (nI e) s = K s' ∧ (∀ a j, e ≤ a → a < 7 → j < 7 → s'.2 (19 + a) j = 0) ∧ (∀ p j, p < 19 + e ∨ 25 < p → s'.2 p j = s.2 p j) ∧ s'.1 = s.1 := by
  intro d
  induction d with
  | zero =>
    intro e n s hk hn
    obtain ⟨n, rfl⟩ : ∃ m, n = m + 1 := ⟨n - 1, by omega⟩
    refine ⟨s, ?_, fun a j h1 h2 => by omega, fun p j _ => rfl, rfl⟩
    rw [fl_X2_clearRows_2, show e = 7 by omega, lq7, if_pos (nI_le (Nat.le_refl _) (by omega))]
  | succ d ih =>
    intro e n s hk hn
    obtain ⟨n, rfl⟩ : ∃ m, n = m + 1 := ⟨n - 1, by omega⟩
    rw [fl_X2_clearRows_2]
    simp (disch := omega) only [lq7, nI_leI, if_neg, nI_1]
    obtain ⟨s1, e1, g1, g2, g3⟩ := v_cR10 (N := N) (K := fun s3 => fl_X2_clearRows_2 N K n (nI (e + 1)) s3) (show e < 7 by omega) 7 0 N s (by omega) (by omega)
    obtain ⟨s', e2, k1, k2, k3⟩ := ih (e + 1) n s1 (by omega) (by omega)
    refine ⟨s', e1.trans e2, fun a j h1 h2 h3 => ?_, fun p j h => ?_, k3.trans g3⟩
    · by_cases z : a = e
      · subst z; rw [k2 _ _ (Or.inl (by omega))]; exact g1 j (by omega) h3
      · exact k1 a j (by omega) h2 h3
    · rw [k2 p j (by omega), g2 p j (by omega)]
end rows
