/-! A WIRE ENTERED INTO THE ROWS. -/
section enter
variable {N : Nat} {s : Wd}
theorem lZ_add0 (x : Int64) : x + lZ 0 = x := by
  show x + 0 = x
  simp
theorem v_add (a b : Nat) (v : Int32) : ∃ s', f_X2_add N s (oI a 7) (oI b 7) v = some s' ∧ (∀ r c, r < 7 → c < 7 → s'.2 (19 + r) c = s.2 (19 + r) c + lZ (v.toInt * (dlt r a * dlt c b))) ∧ (∀ p j, p < 19 ∨ 25 < p → s'.2 p j = s.2 p j) ∧ s'.1 = s.1 := by
  unfold f_X2_add
  by_cases ha : a < 7
  · by_cases hb : b < 7
    · have ea : oI a 7 = nI a := if_pos ha
      have eb : oI b 7 = nI b := if_pos hb
      rw [ea, eb]
      simp (disch := omega) only [lt0, if_false, lq7, nI_leI, if_neg, rR_n, rL_n, aL_n, i64_lZ]
      refine ⟨_, rfl, fun r c hr hc => ?_, fun p j hp => ?_, rfl⟩
      · rw [sL_at]
        by_cases h1 : r = a
        · by_cases h2 : c = b
          · subst h1; subst h2
            rw [if_pos ⟨rfl, rfl⟩, dlt_self, dlt_self, Int.mul_one, Int.mul_one]
          · rw [if_neg (fun z => h2 z.2), dlt_ne h2, Int.mul_zero, Int.mul_zero, lZ_add0]
        · rw [if_neg (fun z => h1 (by have := z.1; omega)), dlt_ne h1, Int.zero_mul, Int.mul_zero, lZ_add0]
      · rw [sL_at, if_neg (by omega)]
    · have ea : oI a 7 = nI a := if_pos ha
      have eb : oI b 7 = -1 := if_neg hb
      rw [ea, eb]
      simp (disch := omega) only [lt0, if_false, lq7, nI_leI, if_neg]
      rw [if_pos (show (-1 : Int32) < 0 by decide)]
      refine ⟨s, rfl, fun r c hr hc => ?_, fun p j _ => rfl, rfl⟩
      rw [dlt_ne (show c ≠ b by omega), Int.mul_zero, Int.mul_zero, lZ_add0]
  · have ea : oI a 7 = -1 := if_neg ha
    rw [ea, if_pos (show (-1 : Int32) < 0 by decide)]
    refine ⟨s, rfl, fun r c hr hc => ?_, fun p j _ => rfl, rfl⟩
    rw [dlt_ne (show r ≠ a by omega), Int.zero_mul, Int.mul_zero, lZ_add0]
variable {t : Nt}
/-- the label of a node: its row, 7 for the one left out -/
def labR (t : Nt) (l j : Nat) : Nat := if pR t l j then fb_ct (pR t l) j else 7
theorem rwI_o {l j : Nat} (hj : j < 7) : rwI t l j = oI (labR t l j) 7 := by
  have := fb_ct_le (pR t l) j
  unfold rwI labR oI
  cases pR t l j
  · rfl
  · simp only [if_true]; rw [if_pos (by omega)]
theorem v_enter (r : RN s t) (i : IN t) {l w : Nat} (hw : w < 20) (hb : t.wr.testBit w = true) (h17 : ∀ j, j < 7 → s.1 17 j = rwI t l j) : ∃ s', f_X2_enter N s (nI w) = some s' ∧
    (∀ x y, x < 7 → y < 7 → s'.2 (19 + x) y = s.2 (19 + x) y + lZ ((t.c w : Int) * (xv (labR t l) (t.g w) x * xv (labR t l) (t.g w) y))) ∧ (∀ p j, p < 19 ∨ 25 < p → s'.2 p j = s.2 p j) ∧ s'.1 = s.1 := by
  have hf := i.fb w
  have hs := i.sb w
  have hc := i.cb w hb
  have hwn := bit_lt i.wr hb
  have row : ∀ j, j < 7 → f_X2_rowOfNode N s (nI j) = some (oI (labR t l j) 7) := fun j hj => by
    unfold f_X2_rowOfNode
    simp (disch := omega) only [lt0, if_false, lq7, nI_leI, if_neg, rI_n, h17 j hj]
    rw [rwI_o hj]
  unfold f_X2_enter
  rw [v_firstOf r hw, bP_s, row _ hf, bP_s, v_secondOf r hw, bP_s, row _ hs, bP_s, v_conductanceOf r hw hwn, bP_s]
  obtain ⟨s1, e1, a1, b1, c1⟩ := v_add (N := N) (s := s) (labR t l (t.f w)) (labR t l (t.f w)) (nI (t.c w))
  obtain ⟨s2, e2, a2, b2, c2⟩ := v_add (N := N) (s := s1) (labR t l (t.s w)) (labR t l (t.s w)) (nI (t.c w))
  obtain ⟨s3, e3, a3, b3, c3⟩ := v_add (N := N) (s := s2) (labR t l (t.f w)) (labR t l (t.s w)) (-nI (t.c w))
  obtain ⟨s4, e4, a4, b4, c4⟩ := v_add (N := N) (s := s3) (labR t l (t.s w)) (labR t l (t.f w)) (-nI (t.c w))
  rw [e1, bP_s, e2, bP_s, e3, bP_s, e4, bP_s]
  have n1 : (nI (t.c w)).toInt = (t.c w : Int) := nI_toInt (by omega)
  have n2 : (-nI (t.c w)).toInt = -(t.c w : Int) := sb_negT (by omega)
  refine ⟨s4, rfl, fun x y hx hy => ?_, fun p j hp => ?_, ?_⟩
  · rw [a4 x y hx hy, a3 x y hx hy, a2 x y hx hy, a1 x y hx hy, n1, n2, Int64.add_assoc, Int64.add_assoc, Int64.add_assoc, lZ_add, lZ_add, lZ_add]
    congr 2
    show _ = (t.c w : Int) * ((dlt x (labR t l (t.f w)) - dlt x (labR t l (t.s w))) * (dlt y (labR t l (t.f w)) - dlt y (labR t l (t.s w))))
    generalize dlt x (labR t l (t.f w)) = p
    generalize dlt x (labR t l (t.s w)) = q
    generalize dlt y (labR t l (t.f w)) = u
    generalize dlt y (labR t l (t.s w)) = v
    simp only [Int.mul_sub, Int.sub_mul, Int.neg_mul]
    omega
  · rw [b4 p j hp, b3 p j hp, b2 p j hp, b1 p j hp]
  · rw [c4, c3, c2, c1]
end enter
