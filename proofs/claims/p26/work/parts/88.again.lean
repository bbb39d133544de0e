/-! THE WIRES' MATRIX IN THE ROWS. -/
def lsQ (t : Nt) : Nat → List Ed
  | 0 => []
  | k + 1 => if t.Q k then t.g k :: lsQ t k else lsQ t k
section again
variable {N : Nat} {t : Nt}
theorem v_again27 {ρ : Type} {K : Wd → Option ρ} {x2 : Int32} (i : IN t) {l : Nat} : ∀ d k n (s : Wd), k + d = 20 → d < n → RN s t → (∀ j, j < 7 → s.1 17 j = rwI t l j) → (∀ x y, x < 7 → y < 7 → s.2 (19 + x) y = lZ (LA (labR t l) (lsQ t k) x y)) →
    ∃ s', fl_X2_countTreesAgain_27 N x2 K n (nI k) s = K s' ∧ (∀ x y, x < 7 → y < 7 → s'.2 (19 + x) y = lZ (LA (labR t l) (lsQ t 20) x y)) ∧ (∀ p j, p < 19 ∨ 25 < p → s'.2 p j = s.2 p j) ∧ s'.1 = s.1 := by
  intro d
  induction d with
  | zero =>
    intro k n s hk hn r h17 hM
    obtain ⟨n, rfl⟩ : ∃ m, n = m + 1 := ⟨n - 1, by omega⟩
    have hk : k = 20 := by omega
    subst hk
    refine ⟨s, ?_, hM, fun p j _ => rfl, rfl⟩
    rw [fl_X2_countTreesAgain_27, lq20, if_pos (nI_le (Nat.le_refl _) (by omega))]
  | succ d ih =>
    intro k n s hk hn r h17 hM
    obtain ⟨n, rfl⟩ : ∃ m, n = m + 1 := ⟨n - 1, by omega⟩
    have hQ : t.Q k = (t.wr.testBit k && !(t.f k == t.s k)) := rfl
    have no : t.Q k = false → ∃ s', fl_X2_countTreesAgain_27 N x2 K n (nI (k + 1)) s = K s' ∧ (∀ x y, x < 7 → y < 7 → s'.2 (19 + x) y = lZ (LA (labR t l) (lsQ t 20) x y)) ∧ (∀ p j, p < 19 ∨ 25 < p → s'.2 p j = s.2 p j) ∧ s'.1 = s.1 := fun hq => by
      have e : lsQ t (k + 1) = lsQ t k := by rw [lsQ, hq]; rfl
      exact ih (k + 1) n s (by omega) (by omega) r h17 (by rw [e]; exact hM)
    rw [fl_X2_countTreesAgain_27]
    simp (disch := omega) only [lq20, nI_leI, if_neg, jn_e, nI_1]
    rw [v_hasWire r i, bP_s, if_bI0, inS_n (by omega), v_isRing r i (by omega), bP_s, if_bI0]
    rcases Bool.eq_false_or_eq_true (t.wr.testBit k) with hb | hb
    · rw [if_pos hb]
      rcases Bool.eq_false_or_eq_true (t.f k == t.s k) with hr | hr
      · rw [if_pos hr]
        exact no (by rw [hQ, hb, hr]; rfl)
      · rw [if_neg (by rw [hr]; decide)]
        obtain ⟨s1, e1, g1, g2, g3⟩ := v_enter (N := N) r i (l := l) (show k < 20 by omega) hb h17
        have hq : t.Q k = true := by rw [hQ, hb, hr]; rfl
        have e : lsQ t (k + 1) = t.g k :: lsQ t k := by rw [lsQ, hq]; rfl
        obtain ⟨s', e2, k1, k2, k3⟩ := ih (k + 1) n s1 (by omega) (by omega) (r.same (fun p _ _ => by rw [g3])) (fun j hj => by rw [g3]; exact h17 j hj) (fun x y hx hy => by
          rw [g1 x y hx hy, hM x y hx hy, lZ_add, e]; rfl)
        refine ⟨s', ?_, k1, fun p j hp => by rw [k2 p j hp, g2 p j hp], k3.trans g3⟩
        rw [e1, bP_s]; exact e2
    · rw [if_neg (by rw [hb]; decide)]
      exact no (by rw [hQ, hb]; rfl)
theorem lsQ_dl : ∀ m, lsQ t m = dl (fun j => t.g ((pick t.Q m).getD j 0)) (pick t.Q m).length
  | 0 => rfl
  | m + 1 => by
    have ih := lsQ_dl m
    have cong : ∀ (g g' : Nat → Ed) n, (∀ j, j < n → g j = g' j) → dl g n = dl g' n := by
      intro g g' n
      induction n with
      | zero => intro _; rfl
      | succ n ihn =>
        intro h
        show g n :: dl g n = g' n :: dl g' n
        rw [h n (by omega), ihn (fun j hj => h j (by omega))]
    unfold lsQ pick
    cases hq : t.Q m
    · exact ih
    · simp only [if_true]
      rw [List.length_append]
      show t.g m :: lsQ t m = t.g ((pick t.Q m ++ [m]).getD (pick t.Q m).length 0) :: dl _ (pick t.Q m).length
      rw [getD_last, ih]
      congr 1
      exact cong _ _ _ (fun j hj => by rw [getD_snoc hj])
end again
