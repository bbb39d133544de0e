/-! THE LAW: which exceptions can come, and the wrappers of the calls. -/
def Only {α : Type} (Q : Nat → Prop) (f : Option ((Nat ⊕ α) × Wd)) : Prop := ∀ q s, f = some (.inl q, s) → Q q
theorem only_inr {α : Type} {Q : Nat → Prop} {v : α} {s : Wd} : Only Q (some (.inr v, s)) := fun q s' h => by simp at h
theorem only_inl {α : Type} {Q : Nat → Prop} {q : Nat} {s : Wd} (h : Q q) : Only Q (some ((.inl q : Nat ⊕ α), s)) := fun q' s' h' => by
  simp only [Option.some.injEq, Prod.mk.injEq, Sum.inl.injEq] at h'
  rw [← h'.1]; exact h
theorem only_bP {α β : Type} {Q : Nat → Prop} {f : Option β} {K : β → Option ((Nat ⊕ α) × Wd)} (h : ∀ a, Only Q (K a)) : Only Q (bP f K) := by
  cases f with
  | none => intro q s h'; exact absurd h' (by simp [bP])
  | some a => exact h a
theorem only_bS {α β ω : Type} {Q : Nat → Prop} {f : Option (β × ω)} {K : β → ω → Option ((Nat ⊕ α) × Wd)} (h : ∀ a s, Only Q (K a s)) : Only Q (bS f K) := by
  cases f with
  | none => intro q s h'; exact absurd h' (by simp [bS])
  | some a => exact h a.1 a.2
theorem only_bX {α β : Type} {Q : Nat → Prop} {f : Option ((Nat ⊕ β) × Wd)} {K : β → Wd → Option ((Nat ⊕ α) × Wd)} (hf : Only Q f) (h : ∀ a s, Only Q (K a s)) : Only Q (bX f K) := by
  match f, hf with
  | none, _ => intro q s h'; exact absurd h' (by simp [bX])
  | some (.inr a, s), _ => exact h a s
  | some (.inl q, s), hf => exact only_inl (hf q s rfl)
theorem only_ite {α : Type} {Q : Nat → Prop} {c : Prop} [Decidable c] {x y : Option ((Nat ⊕ α) × Wd)} (h1 : Only Q x) (h2 : Only Q y) : Only Q (if c then x else y) := by
  by_cases hc : c
  · rw [if_pos hc]; exact h1
  · rw [if_neg hc]; exact h2
section only
variable {N : Nat} {σ : Wd}
theorem only_nn {Q : Nat → Prop} (h : Q 1) (x : Int32) : Only Q (f_X7_needNode N σ x) := by
  unfold f_X7_needNode
  exact only_bP fun _ => only_ite (only_inl h) only_inr
theorem only_ne {Q : Nat → Prop} (h : Q 1) (x : Int32) : Only Q (f_X7_needEdge N σ x) := by
  unfold f_X7_needEdge
  exact only_bP fun _ => only_ite (only_inl h) only_inr
theorem only_nw {Q : Nat → Prop} (h : Q 1) (x : Int32) : Only Q (f_X7_needWire N σ x) := by
  unfold f_X7_needWire
  exact only_bP fun _ => only_ite (only_inl h) only_inr
theorem only_node (x : Int32) : Only (fun q => q = 3) (f_X7_node N σ x) := by
  unfold f_X7_node
  exact only_bP fun _ => only_ite (only_inl rfl) (only_bP fun _ => only_bS fun _ _ => only_inr)
theorem only_wireIs (x y : Int32) : Only (fun q => q = 1 ∨ q = 2) (f_X7_wireIs N σ x y) := by
  unfold f_X7_wireIs
  simp only [jn_e]
  exact only_bX (only_nw (Or.inl rfl) x) fun _ _ => only_ite (only_inl (Or.inr rfl)) (only_ite (only_ite (only_bP fun _ => only_inr) (only_ite (only_bP fun _ => only_inr) (only_bP fun _ => only_inr))) (only_inl (Or.inr rfl)))
theorem only_tree (x : Int32) : Only (fun q => q = 2) (f_X7_tree N σ x) := by
  unfold f_X7_tree
  exact only_ite (only_bS fun _ _ => only_inr) (only_inl rfl)
theorem only_answer (x y b : Int32) : Only (fun q => q = 1 ∨ q = 2) (f_X7_answer N σ x y b) := by
  unfold f_X7_answer
  exact only_bX (only_ne (Or.inl rfl) x) fun _ _ => only_bX (only_ne (Or.inl rfl) y) fun _ _ => only_ite (only_inl (Or.inr rfl)) (only_bS fun _ _ => only_bS fun _ _ => only_bP fun _ => only_inr)
theorem only_value (x y : Int32) : Only (fun q => q = 1 ∨ q = 2) (f_X7_value N σ x y) := by
  unfold f_X7_value
  simp only [jn_e]
  exact only_bX (only_ne (Or.inl rfl) x) fun _ _ => only_ite (only_inl (Or.inr rfl)) (only_ite (only_bP fun _ => only_inr) (only_inl (Or.inr rfl)))
theorem only_potential (x b : Int32) : Only (fun q => q = 1) (f_X7_potential N σ x b) := by
  unfold f_X7_potential
  exact only_bX (only_nn (Q := fun q => q = 1) rfl x) fun _ _ => only_bP fun _ => only_ite (only_bS fun _ _ => only_bS fun _ _ => only_bP fun _ => only_inr) (only_bP fun _ => only_bP fun _ => only_inr)
theorem only_current (x b : Int32) : Only (fun q => q = 1) (f_X7_current N σ x b) := by
  unfold f_X7_current
  exact only_bX (only_ne (Q := fun q => q = 1) rfl x) fun _ _ => only_bS fun _ _ => only_bS fun _ _ => only_bP fun _ => only_inr
theorem only_distance (x y b : Int32) : Only (fun q => q = 1) (f_X7_distance N σ x y b) := by
  unfold f_X7_distance
  exact only_bX (only_nn (Q := fun q => q = 1) rfl x) fun _ _ => only_bX (only_nn (Q := fun q => q = 1) rfl y) fun _ _ => only_ite (only_bP fun _ => only_inr) (only_bP fun _ => only_bP fun _ => only_bS fun _ _ => only_bS fun _ _ => only_bP fun _ => only_inr)
theorem only_chance (z x y b : Int32) : Only (fun q => q = 1 ∨ q = 2) (f_X7_chance N σ z x y b) := by
  unfold f_X7_chance
  simp only [lI]
  exact only_bX (only_nn (Or.inl rfl) z) fun _ _ => only_bX (only_nn (Or.inl rfl) x) fun _ _ => only_bX (only_nn (Or.inl rfl) y) fun _ _ => only_ite (only_inl (Or.inr rfl)) (only_bP fun _ => only_bP fun _ => only_bS fun _ _ => only_bS fun _ _ => only_bP fun _ => only_inr)
theorem only_st23 {Q : Nat → Prop} {x1 x2 : Int32} {K : Wd → Option ((Nat ⊕ Int64) × Wd)} (hK : ∀ s, Only Q (K s)) : ∀ n x (s : Wd), Only Q (fl_X7_starred_23 N x1 x2 K n x s) := by
  intro n
  induction n with
  | zero => intro x s q s' h; rw [fl_X7_starred_23] at h; exact absurd h (by simp)
  | succ n ih =>
    intro x s
    rw [fl_X7_starred_23]
    simp only [jn_e]
    exact only_ite (hK s) (only_bP fun _ => only_ite (ih _ _) (only_bS fun _ _ => only_ite only_inr (ih _ _)))
theorem only_starred (x b : Int32) : Only (fun q => q = 1) (f_X7_starred N σ x b) := by
  unfold f_X7_starred
  simp only [gI]
  exact only_bX (only_ne (Q := fun q => q = 1) rfl x) fun _ _ => only_bP fun _ => only_ite (only_st23 (fun _ => only_bS fun _ _ => only_bS fun _ _ => only_bP fun _ => only_inr) _ _ _) only_inr
theorem only_undo : Only (fun q => q = 3) (f_X7_undo N σ) := by
  unfold f_X7_undo
  exact only_bP fun _ => only_ite (only_inl rfl) (only_bP fun _ => only_bP fun _ => only_inr)
end only
theorem nI_q {q : Nat} (h1 : 1 ≤ q) (h3 : q ≤ 3) : ¬ nI q = 0 := fun e => by
  rw [lq0, nI_eq (by omega) (by omega)] at e
  omega
