/-! THE LAW: which exceptions can come, and the wrappers of the calls. -/
def Only {α : Type} (Q : Nat → Prop) (f : Option ((Nat ⊕ α) × Wd)) : Prop := ∀ q s, f = some (.inl q, s) → Q q
theorem only_inr {α : Type} {Q : Nat → Prop} {v : α} {s : Wd} : Only Q (some (.inr v, s)) := fun q s' h => by simp at h
theorem only_inl {α : Type} {Q : Nat → Prop} {q : Nat} {s : Wd} (h : Q q) : Only Q (some ((.inl q : Nat ⊕ α), s)) := fun q' s' h' => by
  simp only [Option.some.injEq, Prod.mk.injEq, Sum.inl.injEq] at h'
  rw [← h'.1]; exact h
theorem only_bP {α β : Type} {Q : Nat → Prop} {f : Option β} {K : β → Option ((Nat ⊕ α) × Wd)} (h : ∀ a, Only Q (K a)) : Only Q (bP f K) := by
  cases f with
  | none => intro q s h'; exact absurd h' (by simp [bP])
  | some a => exact h a
theorem only_bS {α β ω : Type} {Q : Nat → Prop} {f : Option (β × ω)} {K : β → ω → Option ((Nat ⊕ α) × Wd)} (h : ∀ a s, Only Q (K a s)) : Only Q (bS f K) := by
  cases f with
  | none => intro q s h'; exact absurd h' (by simp [bS])
  | some a => exact h a.1 a.2
theorem only_bX {α β : Type} {Q : Nat → Prop} {f : Option ((Nat ⊕ β) × Wd)} {K : β → Wd → Option ((Nat ⊕ α) × Wd)} (hf : Only Q f) (h : ∀ a s, Only Q (K a s)) : Only Q (bX f K) := by
  match f, hf with
  | none, _ => intro q s h'; exact absurd h' (by simp [bX])
  | some (.inr a, s), _ => exact h a s
  | some (.inl q, s), hf => exact only_inl (hf q s rfl)
theorem only_ite {α : Type} {Q : Nat → Prop} {c : Prop} [Decidable c] {x y : Option ((Nat ⊕ α) × Wd)} (h1 : Only Q x) (h2 : Only Q y) : Only Q (if c then x else y) := by
  by_cases hc : c
  · rw [if_pos hc]; exact h1
  · rw [if_neg hc]; exact h2
section only
variable {N : Nat} {σ : Wd}
theorem only_nn {Q : Nat → Prop} (h : Q 1) (x : Int32) : Only Q (f_X7_needNode N σ x) := by
  unfold f_X7_needNode
  exact only_bP fun _ => only_ite (only_inl h) only_inr
theorem only_ne {Q : Nat → Prop} (h : Q 1) (x : Int32) : Only Q (f_X7_needEdge N σ x) := by
  unfold f_X7_needEdge
  exact only_bP fun _ => only_ite (only_inl h) only_inr
theorem only_nw {Q : Nat → Prop} (h : Q 1) (x : Int32) : Only Q (f_X7_needWire N σ x) := by
  unfold f_X7_needWire
  exact only_bP fun _ => only_ite (only_inl h) only_inr
theorem only_node (x : Int32) : Only (fun q => q = 3) (f_X7_node N σ x) := by
  unfold f_X7_node
  exact only_bP fun _ => only_ite (only_inl rfl) (only_bP fun _ => only_bS fun _ _ => only_inr)
theorem only_wireIs (x y : Int32) : Only (fun q => q = 1 ∨ q = 2) (f_X7_wireIs N σ x y) := by
  unfold f_X7_wireIs
  simp only [jn_e]
  exact only_bX (only_nw (Or.inl rfl) x) fun _ _ => only_ite (only_inl (Or.inr rfl)) (only_ite (only_ite (only_bP fun _ => only_inr) (only_ite (only_bP fun _ => only_inr) (only_bP fun _ => only_inr))) (only_inl (Or.inr rfl)))
theorem only_tree (x : Int32) : Only (fun q => q = 2) (f_X7_tree N σ x) := by
  unfold f_X7_tree
  exact only_ite (only_bS fun _ _ => only_inr) (only_inl rfl)
theorem only_answer (x y b : Int32) : Only (fun q => q = 1 ∨ q = 2) (f_X7_answer N σ x y b) := by
  unfold f_X7_answer
  exact only_bX (only_ne (Or.inl rfl) x) fun _ _ => only_bX (only_ne (Or.inl rfl) y) fun _ _ => only_ite (only_inl (Or.inr rfl)) (only_bS fun _ _ => only_bS fun _ _ => only_bP fun _ => only_inr)
theorem only_value (x y : Int32) : Only (fun q => q = 1 ∨ q = 2) (f_X7_value N σ x y) := by
  unfold f_X7_value
  simp only [jn_e]
  exact only_bX (only_ne (Or.inl rfl) x) fun _ _ => only_ite (only_inl (Or.inr rfl)) (only_ite (only_bP fun _ => only_inr) (only_inl (Or.inr rfl)))
theorem only_potential (x b : Int32) : Only (fun q => q = 1) (f_X7_potential N σ x b) := by
  unfold f_X7_potential
  exact only_bX (only_nn (Q := fun q => q = 1) rfl x) fun _ _ => only_bP fun _ => only_ite (only_bS fun _ _ => only_bS fun _ _ => only_bP fun _ => only_inr) (only_bP fun _ => only_bP fun _ => only_inr)
theorem only_current (x b : Int32) : Only (fun q => q = 1) (f_X7_current N σ x b) := by
  unfold f_X7_current
  exact only_bX (only_ne (Q := fun q => q = 1) rfl x) fun _ _ => only_bS fun _ _ => only_bS fun _ _ => only_bP fun _ => only_inr
theorem only_distance (x y b : Int32) : Only (fun q => q = 1) (f_X7_distance N σ x y b) := by
  unfold f_X7_distance
  exact only_bX (only_nn (Q := fun q => q = 1) rfl x) fun _ _ => only_bX (only_nn (Q := fun q => q = 1) rfl y) fun _ _ => only_ite (only_bP fun _ => only_inr) (only_bP fun _ => only_bP fun _ => only_bS fun _ _ => only_bS fun _ _ => only_bP fun _ => only_inr)
theorem only_chance (z x y b : Int32) : Only (fun q => q = 1 ∨ q = 2) (f_X7_chance N σ z x y b) := by
  unfold f_X7_chance
  simp only [lI]
  exact only_bX (only_nn (Or.inl rfl) z) fun _ _ => only_bX (only_nn (Or.inl rfl) x) fun _ _ => only_bX (only_nn (Or.inl rfl) y) fun _ _ => only_ite (only_inl (Or.inr rfl)) (only_bP fun _ => only_bP fun _ => only_bS fun _ _ => only_bS fun _ _ => only_bP fun _ => only_inr)
theorem only_erased (x : Int32) : Only (fun q => q = 1 ∨ q = 2) (f_X7_erased N σ x) := by
  unfold f_X7_erased
  exact only_bP fun _ => only_ite (only_bP fun _ => only_ite (only_inl (Or.inr rfl)) (only_bS fun _ _ => only_inr)) (only_inl (Or.inl rfl))
theorem only_st23 {Q : Nat → Prop} {x1 x2 : Int32} {K : Wd → Option ((Nat ⊕ Int64) × Wd)} (hK : ∀ s, Only Q (K s)) : ∀ n x (s : Wd), Only Q (fl_X7_starred_23 N x1 x2 K n x s) := by
  intro n
  induction n with
  | zero => intro x s q s' h; rw [fl_X7_starred_23] at h; exact absurd h (by simp)
  | succ n ih =>
    intro x s
    rw [fl_X7_starred_23]
    simp only [jn_e]
    exact only_ite (hK s) (only_bP fun _ => only_ite (ih _ _) (only_bS fun _ _ => only_ite only_inr (ih _ _)))
theorem only_starred (x b : Int32) : Only (fun q => q = 1) (f_X7_starred N σ x b) := by
  unfold f_X7_starred
  simp only [gI]
  exact only_bX (only_ne (Q := fun q => q = 1) rfl x) fun _ _ => only_bP fun _ => only_ite (only_st23 (fun _ => only_bS fun _ _ => only_bS fun _ _ => only_bP fun _ => only_inr) _ _ _) only_inr
theorem only_undo : Only (fun q => q = 3) (f_X7_undo N σ) := by
  unfold f_X7_undo
  exact only_bP fun _ => only_ite (only_inl rfl) (only_bP fun _ => only_bP fun _ => only_inr)
end only
/-- a wrapper and the reference's call come to the same -/
def WR {α : Type} (conv : α → Int64) (F : Option (Int32 × W3)) (g : Option (α × Wd)) (s0 : W3) : Prop :=
  ∃ (c : Int32) (σ' τ' : Wd) (o' : Nat → Int64) (v : α), F = some (c, (σ', s0.2.1, o')) ∧ g = some (v, τ') ∧ RR σ' τ' ∧ τ'.1 0 0 = c ∧ (c = 0 → o' 0 = conv v)
theorem nI_q {q : Nat} (h1 : 1 ≤ q) (h3 : q ≤ 3) : ¬ nI q = 0 := fun e => by
  rw [lq0, nI_eq (by omega) (by omega)] at e
  omega
theorem wr_of {α : Type} {conv : α → Int64} {m : Nat → Nat} {f : Option ((Nat ⊕ α) × Wd)} {g : Option (α × Wd)} {s0 : W3} {X : Nat → W3 → Option (Int32 × W3)} (hs : SimX m f g) {Q : Nat → Prop} (ho : Only Q f)
    (hX : ∀ q s, Q q → (q = 1 ∨ q = 2 ∨ q = 3) → X q s = some (nI (m q), s) ∧ 1 ≤ m q ∧ m q ≤ 3) : WR conv (bH (lXC s0 f) (fun v1 s2 => oS s2 0 (conv v1) fun s3 => some (0, s3)) X) g s0 := by
  obtain ⟨σ', τ', hr, ⟨q, w, hq, h1, h2, h3⟩ | ⟨v, h1, h2, h3⟩⟩ := hs
  · obtain ⟨e1, e2, e3⟩ := hX q (σ', s0.2.1, s0.2.2) (ho q σ' h1) hq
    refine ⟨nI (m q), σ', τ', s0.2.2, w, ?_, h2, hr, h3, fun z => absurd z (nI_q e2 e3)⟩
    rw [h1]
    exact e1
  · refine ⟨0, σ', τ', vp_updL s0.2.2 0 (conv v), v, ?_, h2, hr, h3, fun _ => pk_uLs⟩
    rw [h1]
    show oS (σ', s0.2.1, s0.2.2) 0 (conv v) (fun s3 => some (0, s3)) = _
    unfold oS
    rw [if_pos (show inb 0 1 = true from inb_n (j := 0) (n := 1) (by omega) (by omega))]
    rfl
theorem wr_unit {m : Nat → Nat} {f : Option ((Nat ⊕ Unit) × Wd)} {g : Option Wd} {s0 : W3} {X : Nat → W3 → Option (Int32 × W3)} (hs : SimU m f g) {Q : Nat → Prop} (ho : Only Q f)
    (hX : ∀ q s, Q q → (q = 1 ∨ q = 2 ∨ q = 3) → X q s = some (nI (m q), s)) : ∃ (c : Int32) (σ' τ' : Wd), bH (lXC s0 f) (fun _ s2 => some (0, s2)) X = some (c, (σ', s0.2.1, s0.2.2)) ∧ g = some τ' ∧ RR σ' τ' ∧ τ'.1 0 0 = c := by
  obtain ⟨σ', τ', hr, h2, ⟨q, hq, h1, h3⟩ | ⟨h1, h3⟩⟩ := hs
  · refine ⟨nI (m q), σ', τ', ?_, h2, hr, h3⟩
    rw [h1]
    exact hX q (σ', s0.2.1, s0.2.2) (ho q σ' h1) hq
  · refine ⟨0, σ', τ', ?_, h2, hr, h3⟩
    rw [h1]
    rfl
section wrs
variable {N : Nat} {s0 : W3}
theorem x12 {q : Nat} (h : q = 1 ∨ q = 2) (s : W3) : (if q = 1 then (some ((1 : Int32), s)) else if q = 2 then some (2, s) else none) = some (nI (id q), s) ∧ 1 ≤ id q ∧ id q ≤ 3 := by
  rcases h with rfl | rfl
  · exact ⟨rfl, by decide, by decide⟩
  · exact ⟨rfl, by decide, by decide⟩
theorem x1 {q : Nat} (h : q = 1) (s : W3) : (if q = 1 then (some ((1 : Int32), s)) else none) = some (nI (id q), s) ∧ 1 ≤ id q ∧ id q ≤ 3 := by
  subst h; exact ⟨rfl, by decide, by decide⟩
theorem x123 {q : Nat} (h : q = 1 ∨ q = 2 ∨ q = 3) (s : W3) : (if q = 1 then (some ((1 : Int32), s)) else if q = 2 then some (2, s) else if q = 3 then some (3, s) else none) = some (nI (id q), s) ∧ 1 ≤ id q ∧ id q ≤ 3 := by
  rcases h with rfl | rfl | rfl
  · exact ⟨rfl, by decide, by decide⟩
  · exact ⟨rfl, by decide, by decide⟩
  · exact ⟨rfl, by decide, by decide⟩
theorem only_all {α : Type} {f : Option ((Nat ⊕ α) × Wd)} : Only (fun _ => True) f := fun _ _ _ => trivial
theorem wr_node (h : RR s0.1 s0.2.1) (b : Bool) : WR Int32.toInt64 (f_L_node N s0 (bI b)) (f_X8_node N s0.2.1 (bI b)) s0 := by
  obtain ⟨t, h⟩ := h
  unfold f_L_node
  exact wr_of (sim_node h b) (only_node _) (fun q s hq _ => by subst hq; exact ⟨rfl, by decide, by decide⟩)
theorem wr_wire (h : RR s0.1 s0.2.1) (hN : 5000 ≤ N) (x y z : Int32) : WR Int32.toInt64 (f_L_wire N s0 x y z) (f_X8_wire N s0.2.1 x y z) s0 := by
  obtain ⟨t, h⟩ := h
  unfold f_L_wire
  exact wr_of (sim_wire h hN x y z) only_all (fun q s _ hq => x123 hq s)
theorem wr_wireIs (h : RR s0.1 s0.2.1) (hN : 5000 ≤ N) (x y : Int32) : WR Int32.toInt64 (f_L_wireIs N s0 x y) (f_X8_wireIs N s0.2.1 x y) s0 := by
  obtain ⟨t, h⟩ := h
  unfold f_L_wireIs
  exact wr_of (sim_wireIs h hN x y) (only_wireIs x y) (fun q s hq _ => x12 hq s)
theorem wr_tree (h : RR s0.1 s0.2.1) (hN : 5000 ≤ N) (x : Int32) : WR Int32.toInt64 (f_L_tree N s0 x) (f_X8_tree N s0.2.1 x) s0 := by
  obtain ⟨t, h⟩ := h
  unfold f_L_tree
  exact wr_of (sim_tree h hN x) (only_tree x) (fun q s hq _ => by subst hq; exact ⟨rfl, by decide, by decide⟩)
theorem wr_answer (h : RR s0.1 s0.2.1) (hN : 5000 ≤ N) (x y b : Int32) : WR id (f_L_answer N s0 x y b) (f_X8_answer N s0.2.1 x y b) s0 := by
  obtain ⟨t, h⟩ := h
  unfold f_L_answer
  exact wr_of (conv := id) (sim_answer h hN x y b) (only_answer x y b) (fun q s hq _ => x12 hq s)
theorem wr_value (h : RR s0.1 s0.2.1) (x y : Int32) : ∃ (c : Int32) (σ' τ' : Wd), f_L_value N s0 x y = some (c, (σ', s0.2.1, s0.2.2)) ∧ f_X8_value N s0.2.1 x y = some τ' ∧ RR σ' τ' ∧ τ'.1 0 0 = c := by
  obtain ⟨t, h⟩ := h
  unfold f_L_value
  exact wr_unit (sim_value h x y) (only_value x y) (fun q s hq _ => (x12 hq s).1)
theorem wr_potential (h : RR s0.1 s0.2.1) (hN : 5000 ≤ N) (x b : Int32) : WR id (f_L_potential N s0 x b) (f_X8_potential N s0.2.1 x b) s0 := by
  obtain ⟨t, h⟩ := h
  unfold f_L_potential
  exact wr_of (conv := id) (sim_potential h hN x b) (only_potential x b) (fun q s hq _ => x1 hq s)
theorem wr_current (h : RR s0.1 s0.2.1) (hN : 5000 ≤ N) (x b : Int32) : WR id (f_L_current N s0 x b) (f_X8_current N s0.2.1 x b) s0 := by
  obtain ⟨t, h⟩ := h
  unfold f_L_current
  exact wr_of (conv := id) (sim_current h hN x b) (only_current x b) (fun q s hq _ => x1 hq s)
theorem wr_distance (h : RR s0.1 s0.2.1) (hN : 5000 ≤ N) (x y b : Int32) : WR id (f_L_distance N s0 x y b) (f_X8_distance N s0.2.1 x y b) s0 := by
  obtain ⟨t, h⟩ := h
  unfold f_L_distance
  exact wr_of (conv := id) (sim_distance h hN x y b) (only_distance x y b) (fun q s hq _ => x1 hq s)
theorem wr_chance (h : RR s0.1 s0.2.1) (hN : 5000 ≤ N) (z x y b : Int32) : WR id (f_L_chance N s0 z x y b) (f_X8_chance N s0.2.1 z x y b) s0 := by
  obtain ⟨t, h⟩ := h
  unfold f_L_chance
  exact wr_of (conv := id) (sim_chance h hN z x y b) (only_chance z x y b) (fun q s hq _ => x12 hq s)
theorem wr_erased (h : RR s0.1 s0.2.1) (hN : 5000 ≤ N) (x : Int32) : WR Int32.toInt64 (f_L_erased N s0 x) (f_X8_erased N s0.2.1 x) s0 := by
  obtain ⟨t, h⟩ := h
  unfold f_L_erased
  exact wr_of (sim_erased h hN x) (only_erased x) (fun q s hq _ => x12 hq s)
theorem wr_starred (h : RR s0.1 s0.2.1) (hN : 5000 ≤ N) (x b : Int32) : WR id (f_L_starred N s0 x b) (f_X8_starred N s0.2.1 x b) s0 := by
  obtain ⟨t, h⟩ := h
  unfold f_L_starred
  exact wr_of (conv := id) (sim_starred h hN x b) (only_starred x b) (fun q s hq _ => x1 hq s)
theorem wr_move (h : RR s0.1 s0.2.1) (hN : 5000 ≤ N) (x y : Int32) : ∃ (c : Int32) (σ' τ' : Wd), f_L_move N s0 x y = some (c, (σ', s0.2.1, s0.2.2)) ∧ f_X8_move N s0.2.1 x y = some τ' ∧ RR σ' τ' ∧ τ'.1 0 0 = c := by
  obtain ⟨t, h⟩ := h
  unfold f_L_move
  exact wr_unit (sim_move h hN x y) only_all (fun q s _ hq => (x123 hq s).1)
theorem wr_undo (h : RR s0.1 s0.2.1) (hN : 5000 ≤ N) : WR Int32.toInt64 (f_L_undo N s0) (f_X8_undo N s0.2.1) s0 := by
  obtain ⟨t, h⟩ := h
  unfold f_L_undo
  exact wr_of (sim_undo h hN) only_undo (fun q s hq _ => by subst hq; exact ⟨rfl, by decide, by decide⟩)
end wrs
