/-! WIRES BETWEEN TWO NODES. -/
def fsP (p : Nat → Bool) : Nat → Nat → Nat
  | 0, k => k
  | d + 1, k => if p k then k else fsP p d (k + 1)
theorem fsP_spec (p : Nat → Bool) : ∀ d k, k ≤ fsP p d k ∧ fsP p d k ≤ k + d ∧ (∀ i, k ≤ i → i < fsP p d k → p i = false) ∧ (fsP p d k < k + d → p (fsP p d k) = true)
  | 0, k => ⟨Nat.le_refl _, Nat.le_refl _, fun i h1 h2 => absurd h2 (by show ¬ i < k; omega), fun h => absurd h (by show ¬ k < k + 0; omega)⟩
  | d + 1, k => by
    unfold fsP
    cases h : p k
    · simp only [Bool.false_eq_true, if_false]
      obtain ⟨h1, h2, h3, h4⟩ := fsP_spec p d (k + 1)
      refine ⟨by omega, by omega, fun i hi hl => ?_, fun hl => h4 (by omega)⟩
      rcases Nat.lt_or_ge k i with q | q
      · exact h3 i q hl
      · have : i = k := by omega
        rw [this]; exact h
    · simp only [if_true]
      exact ⟨Nat.le_refl _, by omega, fun i h1 h2 => absurd h2 (by omega), fun _ => h⟩
/-- the two ends of a wire are these -/
def ends (t : Nt) (a b w : Nat) : Bool := (t.f w == a && t.s w == b) || (t.f w == b && t.s w == a)
def btw (t : Nt) (a b w : Nat) : Bool := ends t a b w && t.wr.testBit w
theorem ends_iff {t : Nt} {a b w : Nat} : ends t a b w = true ↔ ((t.f w = a ∧ t.s w = b) ∨ (t.f w = b ∧ t.s w = a)) := by
  unfold ends
  rw [Bool.or_eq_true, Bool.and_eq_true, Bool.and_eq_true, beq_iff_eq, beq_iff_eq, beq_iff_eq, beq_iff_eq]
theorem if_ends {α : Type} {t : Nt} {a b k : Nat} (A B : α) : (if t.f k = a then (if t.s k = b then A else (if t.f k = b then (if t.s k = a then A else B) else B)) else (if t.f k = b then (if t.s k = a then A else B) else B)) = if ends t a b k = true then A else B := by
  by_cases e : ends t a b k = true
  · rw [if_pos e]
    rcases ends_iff.mp e with ⟨z1, z2⟩ | ⟨z1, z2⟩
    · rw [if_pos z1, if_pos z2]
    · by_cases y1 : t.f k = a
      · rw [if_pos y1]
        by_cases y2 : t.s k = b
        · rw [if_pos y2]
        · rw [if_neg y2, if_pos z1, if_pos z2]
      · rw [if_neg y1, if_pos z1, if_pos z2]
  · rw [if_neg e]
    have e1 : ¬ (t.f k = a ∧ t.s k = b) := fun z => e (ends_iff.mpr (Or.inl z))
    have e2 : ¬ (t.f k = b ∧ t.s k = a) := fun z => e (ends_iff.mpr (Or.inr z))
    by_cases y1 : t.f k = a
    · rw [if_pos y1, if_neg (fun z => e1 ⟨y1, z⟩)]
      by_cases y3 : t.f k = b
      · rw [if_pos y3, if_neg (fun z => e2 ⟨y3, z⟩)]
      · rw [if_neg y3]
    · rw [if_neg y1]
      by_cases y3 : t.f k = b
      · rw [if_pos y3, if_neg (fun z => e2 ⟨y3, z⟩)]
      · rw [if_neg y3]
section between
variable {N : Nat} {σ τ : Wd} {t : Nt}
theorem v_lowestBetween (r : RN σ t) (i : IN t) (hN : 100 ≤ N) {a b : Nat} (ha : a < 7) (hb : b < 7) (x : Int32) : f_X4_lowestBetween N σ (nI a) (nI b) x = some (oI (fsP (fun w => btw t a b w && !(decide (nI w = x))) 20 0) 20) := by
  have go : ∀ d k n, k + d = 20 → d < n → fl_X4_lowestBetween_3 N σ (nI a) (nI b) x (fun (_ : Unit) => some (-1)) n (nI k) = some (oI (fsP (fun w => btw t a b w && !(decide (nI w = x))) d k) 20) := by
    intro d
    induction d with
    | zero =>
      intro k n hk hn
      obtain ⟨n, rfl⟩ : ∃ m, n = m + 1 := ⟨n - 1, by omega⟩
      rw [fl_X4_lowestBetween_3, show k = 20 by omega, lq20, if_pos (nI_le (Nat.le_refl _) (by omega))]
      rfl
    | succ d ih =>
      intro k n hk hn
      obtain ⟨n, rfl⟩ : ∃ m, n = m + 1 := ⟨n - 1, by omega⟩
      have hf := i.fb k
      have hs := i.sb k
      have e0 : fsP (fun w => btw t a b w && !(decide (nI w = x))) (d + 1) k = if (btw t a b k && !(decide (nI k = x))) = true then k else fsP (fun w => btw t a b w && !(decide (nI w = x))) d (k + 1) := rfl
      have no : (btw t a b k && !(decide (nI k = x))) = false → fl_X4_lowestBetween_3 N σ (nI a) (nI b) x (fun (_ : Unit) => some (-1)) n (nI (k + 1)) = some (oI (fsP (fun w => btw t a b w && !(decide (nI w = x))) (d + 1) k) 20) := fun h => by
        rw [e0, h]; exact ih (k + 1) n (by omega) (by omega)
      have yes : ends t a b k = true → (if nI k = x then fl_X4_lowestBetween_3 N σ (nI a) (nI b) x (fun (_ : Unit) => some (-1)) n (nI (k + 1)) else bP (f_X4_hasWire N σ (nI k)) fun v3 => if v3 = 0 then fl_X4_lowestBetween_3 N σ (nI a) (nI b) x (fun (_ : Unit) => some (-1)) n (nI (k + 1)) else some (nI k)) = some (oI (fsP (fun w => btw t a b w && !(decide (nI w = x))) (d + 1) k) 20) := fun h => by
        by_cases q : nI k = x
        · rw [if_pos q]; exact no (by rw [decide_eq_true q]; simp)
        · rw [if_neg q, v_hasWire r i, bP_s, if_bI0, inS_n (by omega)]
          cases hb : t.wr.testBit k
          · exact no (by unfold btw; rw [hb]; simp)
          · have hh : (btw t a b k && !(decide (nI k = x))) = true := by
              unfold btw; rw [h, hb, decide_eq_false q]; rfl
            rw [e0, if_pos hh]
            show some (nI k) = some (if k < 20 then nI k else -1)
            rw [if_pos (by omega)]
      have bad : ends t a b k = false → fl_X4_lowestBetween_3 N σ (nI a) (nI b) x (fun (_ : Unit) => some (-1)) n (nI (k + 1)) = some (oI (fsP (fun w => btw t a b w && !(decide (nI w = x))) (d + 1) k) 20) := fun h => no (by unfold btw; rw [h]; rfl)
      rw [fl_X4_lowestBetween_3, lq20, if_neg (nI_ge (by omega) (by omega))]
      simp (disch := omega) only [rI_n, r.f k (by omega), r.s k (by omega), jn_e, nI_1, nI_eq]
      rw [if_neg (show ¬ (1 : Int32) = 0 by decide)]
      simp only [if_true]
      rw [if_ends]
      cases he : ends t a b k
      · rw [if_neg (by decide)]; exact bad he
      · rw [if_pos rfl]; exact yes he
  exact go 20 0 N (by omega) (by omega)
end between
