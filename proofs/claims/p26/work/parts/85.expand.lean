/-! EXPANSION BY THE FIRST ROW: the class's expand is dt. -/
def cL (C : Nat) : Nat → Nat → List Nat
  | _, 0 => []
  | k, d + 1 => if C.testBit k then k :: cL C (k + 1) d else cL C (k + 1) d
theorem cL_congr {C C' : Nat} : ∀ d k, (∀ i, k ≤ i → i < k + d → C.testBit i = C'.testBit i) → cL C k d = cL C' k d
  | 0, _, _ => rfl
  | d + 1, k, h => by
    unfold cL
    rw [h k (Nat.le_refl _) (by omega), cL_congr d (k + 1) (fun i h1 h2 => h i (by omega) (by omega))]
theorem cL_split (C : Nat) : ∀ a k b, cL C k (a + b) = cL C k a ++ cL C (k + a) b
  | 0, k, b => by rw [Nat.zero_add, Nat.add_zero]; rfl
  | a + 1, k, b => by
    have e1 : cL C k ((a + b) + 1) = if C.testBit k then k :: cL C (k + 1) (a + b) else cL C (k + 1) (a + b) := rfl
    have e2 : cL C k (a + 1) = if C.testBit k then k :: cL C (k + 1) a else cL C (k + 1) a := rfl
    rw [show a + 1 + b = (a + b) + 1 by omega, e1, e2, cL_split C a (k + 1) b, show k + 1 + a = k + (a + 1) by omega]
    split <;> rfl
theorem cL_mn {C k : Nat} (hk : k < 7) : cL (mn C (2 ^ k)) 0 7 = cL C 0 k ++ cL C (k + 1) (6 - k) := by
  have e : (7 : Nat) = k + (1 + (6 - k)) := by omega
  rw [e, cL_split, cL_split, Nat.zero_add]
  have hb : ∀ j, (mn C (2 ^ k)).testBit j = (C.testBit j && decide (j ≠ k)) := fun j => by
    rw [mn_bit, Nat.testBit_two_pow]
    by_cases h : k = j
    · subst h; simp
    · have h' : ¬ j = k := fun z => h z.symm
      simp [h, h']
  have h1 : cL (mn C (2 ^ k)) k 1 = [] := by
    unfold cL
    rw [hb k]
    simp [cL]
  rw [h1, List.nil_append, cL_congr (C' := C) k 0 (fun i _ h => by rw [hb i]; simp; omega), cL_congr (C' := C) (6 - k) (k + 1) (fun i h _ => by rw [hb i]; simp; omega)]
/-- the rows from one on -/
def rwF (M : Nat → Nat → Int) (n : Nat) : Nat → Nat → List (Nat → Int)
  | _, 0 => []
  | r, d + 1 => M r :: rwF M n (r + 1) d
section expand
variable {N : Nat} {σ : Wd}
theorem lZ_1 : (1 : Int64) = lZ 1 := rfl
theorem lZ_0 : (0 : Int64) = lZ 0 := rfl
theorem v_exp26 {rec : Wd → Int32 → Int32 → Int32 → Option Int64} {x1 : Int32} {C r : Nat} {M : Nat → Nat → Int} {D : List Nat → Int} (hC : C < 128) (hr : r < 7) (hM : ∀ c, c < 7 → σ.2 (19 + r) c = lZ (M r c))
    (hrec : ∀ k, k < 7 → C.testBit k = true → rec σ x1 (nI (r + 1)) (nI (mn C (2 ^ k))) = some (lZ (D (cL (mn C (2 ^ k)) 0 7)))) {ρ : Type} {K : Int64 → Option ρ} :
    ∀ d k n (acc sg : Int), k + d = 7 → d < n → fl_X2_expand_26 N rec σ x1 (nI r) (nI C) K n (lZ acc) (lZ sg) (nI k) = K (lZ (acc + sg * ex (M r) D (cL C 0 k) (cL C k d))) := by
  intro d
  induction d with
  | zero =>
    intro k n acc sg hk hn
    obtain ⟨n, rfl⟩ : ∃ m, n = m + 1 := ⟨n - 1, by omega⟩
    rw [fl_X2_expand_26, show k = 7 by omega, lq7, if_pos (nI_le (Nat.le_refl _) (by omega))]
    show K (lZ acc) = K (lZ (acc + sg * 0))
    rw [Int.mul_zero, Int.add_zero]
  | succ d ih =>
    intro k n acc sg hk hn
    obtain ⟨n, rfl⟩ : ∃ m, n = m + 1 := ⟨n - 1, by omega⟩
    have hk7 : k < 7 := by omega
    have e0 : cL C 0 (k + 1) = cL C 0 k ++ cL C k 1 := by rw [cL_split, Nat.zero_add]
    rw [fl_X2_expand_26]
    simp (disch := omega) only [lq7, nI_leI, if_neg, v_isIn, bP_s, jn_e, if_bI0, nI_1]
    cases hb : C.testBit k
    · have e1 : cL C k (d + 1) = cL C (k + 1) d := by rw [cL, hb]; rfl
      have e2 : cL C k 1 = [] := by rw [cL, hb]; rfl
      rw [e2, List.append_nil] at e0
      rw [e1, ← e0]
      exact ih (k + 1) n acc sg (by omega) (by omega)
    · have e1 : cL C k (d + 1) = k :: cL C (k + 1) d := by rw [cL, hb]; rfl
      have e2 : cL C k 1 = [k] := by rw [cL, hb]; rfl
      rw [e2] at e0
      simp (disch := omega) only [if_true, rR_n, rL_n, hM k hk7, lL, lZ_neg, v_setOf, bP_s, mn_c, nI_1]
      rw [hrec k hk7 hb, bP_s, cL_mn hk7, e1]
      have hex : ex (M r) D (cL C 0 k) (k :: cL C (k + 1) d) = M r k * D (cL C 0 k ++ cL C (k + 1) d) - ex (M r) D (cL C 0 (k + 1)) (cL C (k + 1) d) := by
        rw [e0]; rfl
      rw [hex, show 6 - k = d by omega]
      by_cases hz : lg_cmp (lZ (M r k)) 0 = 0
      · rw [if_pos hz, ih (k + 1) n acc (-sg) (by omega) (by omega)]
        rw [lg_cmp_eq] at hz
        congr 1
        have h1 : lZ (sg * (M r k * D (cL C 0 k ++ cL C (k + 1) d))) = 0 := by
          rw [← lZ_mul, ← lZ_mul, hz]; simp
        rw [Int.mul_sub, ← Int.add_sub_assoc, Int.neg_mul, ← lZ_sub, ← lZ_add acc (sg * _), h1, ← lZ_add, ← lZ_neg]
        simp [Int64.sub_eq_add_neg]
      · rw [if_neg hz, lZ_mul, lZ_mul, lZ_add, ih (k + 1) n _ (-sg) (by omega) (by omega)]
        congr 2
        rw [Int.mul_sub, Int.neg_mul, Int.mul_assoc]
        omega
theorem v_expand (hN : 100 ≤ N) {n : Nat} {M : Nat → Nat → Int} (hn : n ≤ 7) (hM : ∀ r c, r < 7 → c < 7 → σ.2 (19 + r) c = lZ (M r c)) : ∀ e d r C, r + e = n → e < d → C < 128 → f_X2_expand N d σ (nI n) (nI r) (nI C) = some (lZ (dt (rwF M n r e) (cL C 0 7))) := by
  intro e
  induction e with
  | zero =>
    intro d r C hr hd hC
    obtain ⟨d, rfl⟩ : ∃ m, d = m + 1 := ⟨d - 1, by omega⟩
    rw [f_X2_expand]
    simp (disch := omega) only [lt0, if_false, nI_leI, if_pos]
    rfl
  | succ e ih =>
    intro d r C hr hd hC
    obtain ⟨d, rfl⟩ : ∃ m, d = m + 1 := ⟨d - 1, by omega⟩
    rw [f_X2_expand]
    simp (disch := omega) only [lt0, if_false, nI_leI, if_neg, lq7, nI_ltI, if_pos]
    have key := v_exp26 (N := N) (σ := σ) (rec := f_X2_expand N d) (x1 := nI n) (C := C) (r := r) (M := M) (D := dt (rwF M n (r + 1) e)) (K := fun v13 => some v13) hC (by omega) (fun c hc => hM r c (by omega) hc)
      (fun k hk hb => ih d (r + 1) (mn C (2 ^ k)) (by omega) (by omega) (Nat.lt_of_le_of_lt (mn_le _ _) hC)) 7 0 N 0 1 (by omega) (by omega)
    refine Eq.trans key ?_
    rw [Int.zero_add, Int.one_mul]
    rfl
end expand
