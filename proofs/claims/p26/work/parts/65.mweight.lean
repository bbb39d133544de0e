/-! THE REFERENCE: its cells as numbers, and the weight of a set of wires. -/
theorem lN_le0 {n : Nat} (h : n < 2 ^ 63) : (lN n ≤ 0) ↔ n = 0 := by
  rw [Int64.le_iff_toInt_le]
  show (Int64.ofNat n).toInt ≤ (0 : Int64).toInt ↔ _
  rw [Int64.toInt_ofNat_of_lt h, show (0 : Int64).toInt = 0 from rfl]
  omega
/-- the wires of a set, the highest first -/
def lst (t : Nt) (S : Nat) : Nat → List Ed
  | 0 => []
  | k + 1 => if S.testBit k then t.g k :: lst t S k else lst t S k
theorem lst_end {t : Nt} {S : Nat} : ∀ {m k : Nat}, k ≤ m → ∃ P, lst t S m = P ++ lst t S k
  | 0, k, h => ⟨[], by rw [show k = 0 by omega]; rfl⟩
  | m + 1, k, h => by
    rcases Nat.lt_or_ge m k with q | q
    · exact ⟨[], by rw [show k = m + 1 by omega]; rfl⟩
    · obtain ⟨P, hP⟩ := lst_end (t := t) (S := S) q
      have e : lst t S (m + 1) = if S.testBit m then t.g m :: lst t S m else lst t S m := rfl
      rw [e]
      split
      · exact ⟨t.g m :: P, by rw [hP]; rfl⟩
      · exact ⟨P, hP⟩
theorem lst_mem {t : Nt} {S : Nat} {e : Ed} : ∀ {m : Nat}, e ∈ lst t S m → ∃ w, w < m ∧ S.testBit w = true ∧ e = t.g w
  | 0, h => nomatch h
  | m + 1, h => by
    unfold lst at h
    split at h
    · rename_i hb
      rcases List.mem_cons.mp h with rfl | h
      · exact ⟨m, by omega, hb, rfl⟩
      · obtain ⟨w, h1, h2, h3⟩ := lst_mem h; exact ⟨w, by omega, h2, h3⟩
    · obtain ⟨w, h1, h2, h3⟩ := lst_mem h; exact ⟨w, by omega, h2, h3⟩
theorem wt_bound : ∀ (S : List Ed), (∀ e ∈ S, 1 ≤ e.2.2 ∧ e.2.2 ≤ 60) → 1 ≤ wt S ∧ wt S ≤ 60 ^ S.length
  | [], _ => ⟨Nat.le_refl _, Nat.le_refl _⟩
  | e :: S, h => by
    obtain ⟨h1, h2⟩ := wt_bound S (fun x hx => h x (List.mem_cons_of_mem _ hx))
    obtain ⟨h3, h4⟩ := h e List.mem_cons_self
    refine ⟨Nat.mul_le_mul h3 h1, ?_⟩
    show e.2.2 * wt S ≤ 60 ^ (S.length + 1)
    rw [Nat.pow_succ, Nat.mul_comm (60 ^ S.length)]
    exact Nat.mul_le_mul h4 h2
theorem ac_len {S : List Ed} (h : Ac S) (hS : ∀ e ∈ S, e.1 < 7 ∧ e.2.1 < 7) : S.length ≤ 6 := by
  have := ac_le S [0] (List.range 7) h (by simp) (by simp) (fun x hx y hy _ => by simp at hx hy; rw [hx, hy]) (fun e he => by simpa using hS e he)
  simp at this
  omega
theorem wt_ac {S : List Ed} (h : Ac S) (hS : ∀ e ∈ S, e.1 < 7 ∧ e.2.1 < 7) (hc : ∀ e ∈ S, 1 ≤ e.2.2 ∧ e.2.2 ≤ 60) : 1 ≤ wt S ∧ wt S ≤ 60 ^ 6 := by
  have h1 := wt_bound S hc
  exact ⟨h1.1, Nat.le_trans h1.2 (Nat.pow_le_pow_right (by decide) (ac_len h hS))⟩
theorem mrg_iff {x y : Nat} {lab : Nat → Nat} (i j : Nat) : (mrg x y lab i = mrg x y lab j) ↔ (lab i = lab j ∨ (lab i = x ∧ lab j = y) ∨ (lab i = y ∧ lab j = x)) := by
  by_cases hi : lab i = x <;> by_cases hj : lab j = x
  · rw [mrg_pos hi, mrg_pos hj, hi, hj]; simp
  · rw [mrg_pos hi, mrg_neg hj]
    constructor
    · intro q; exact Or.inr (Or.inl ⟨hi, q.symm⟩)
    · rintro (q | ⟨_, q⟩ | ⟨q, q2⟩)
      · exact absurd (q.symm.trans hi) hj
      · exact q.symm
      · exact absurd q2 hj
  · rw [mrg_neg hi, mrg_pos hj]
    constructor
    · intro q; exact Or.inr (Or.inr ⟨q, hj⟩)
    · rintro (q | ⟨q, _⟩ | ⟨q, _⟩)
      · exact absurd (q.trans hj) hi
      · exact absurd q hi
      · exact q
  · rw [mrg_neg hi, mrg_neg hj]
    constructor
    · exact Or.inl
    · rintro (q | ⟨q, _⟩ | ⟨_, q⟩)
      · exact q
      · exact absurd q hi
      · exact absurd q hj
/-- the labels say what is joined -/
def LabM (s : Wd) (lab : Nat → Nat) (T : List Ed) : Prop := (∀ i, i < 7 → lab i < 7 ∧ s.1 6 i = nI (lab i)) ∧ ∀ i j, i < 7 → j < 7 → (lab i = lab j ↔ Cn T i j)
section mw
variable {N : Nat} {t : Nt}
end mw
