/-! THE LAW: its loop answers 1. -/
section step
variable {N L : Nat} {xs : Nat → Int32} {s0 : W3} {j : W3 → Option Unit}
theorem oG_0 {ρ : Type} (f : Nat → Int64) (K : Int64 → Option ρ) : oG f 0 K = K (f 0) := by
  unfold oG
  rw [if_pos (show inb 0 1 = true from inb_n (j := 0) (n := 1) (by omega) (by omega))]
  rfl
theorem sG_n {ρ : Type} {i : Nat} (K : Int32 → Option ρ) (h : i < L) (hL : L < 2 ^ 31) : sG L xs (nI i) K = K (xs i) := by
  unfold sG
  rw [if_pos (inb_n h hL), nI_clamp (by omega)]
/-- a call that answers or throws -/
theorem stepX {α : Type} {conv : α → Int64} {F : Option (Int32 × W3)} {G : Wd → Option (α × Wd)} (hw : WR conv F (G s0.2.1) s0) (hj : ∀ s : W3, RR s.1 s.2.1 → j s = some ()) :
    (bS F fun v5 s6 => bS (liM s6 (G s6.2.1)) fun v10 s9 => bP (f_X8_thrown N s9.2.1) fun v11 => if v11 = v5 then (if v5 = 0 then (oG s9.2.2 0 fun v12 => if (lg_cmp v12 (conv v10)) = 0 then j s9 else none) else j s9) else none) = some () := by
  obtain ⟨c, σ', τ', o', v, h1, h2, h3, h4, h5⟩ := hw
  rw [h1, bS_s]
  show (bS (liM (σ', s0.2.1, o') (G s0.2.1)) _) = _
  rw [h2]
  show (bP (f_X8_thrown N τ') fun v11 => if v11 = c then (if c = 0 then (oG o' 0 fun v12 => if (lg_cmp v12 (conv v)) = 0 then j (σ', τ', o') else none) else j (σ', τ', o')) else none) = _
  have ht : f_X8_thrown N τ' = some c := by
    unfold f_X8_thrown
    simp only [gI]
    rw [h4]
  rw [ht, bP_s, if_pos rfl]
  by_cases hc : c = 0
  · rw [if_pos hc, oG_0, if_pos (by rw [lg_cmp_eq, h5 hc])]
    exact hj (σ', τ', o') h3
  · rw [if_neg hc]
    exact hj (σ', τ', o') h3
/-- a call without an answer -/
theorem stepU {F : Option (Int32 × W3)} {G : Wd → Option Wd} (hw : ∃ (c : Int32) (σ' τ' : Wd), F = some (c, (σ', s0.2.1, s0.2.2)) ∧ G s0.2.1 = some τ' ∧ RR σ' τ' ∧ τ'.1 0 0 = c) (hj : ∀ s : W3, RR s.1 s.2.1 → j s = some ()) :
    (bS F fun v77 s78 => bP (lvM s78 (G s78.2.1)) fun s81 => bP (f_X8_thrown N s81.2.1) fun v82 => if v82 = v77 then j s81 else none) = some () := by
  obtain ⟨c, σ', τ', h1, h2, h3, h4⟩ := hw
  rw [h1, bS_s]
  show (bP (lvM (σ', s0.2.1, s0.2.2) (G s0.2.1)) _) = _
  rw [h2]
  show (bP (f_X8_thrown N τ') fun v82 => if v82 = c then j (σ', τ', s0.2.2) else none) = _
  have ht : f_X8_thrown N τ' = some c := by
    unfold f_X8_thrown
    simp only [gI]
    rw [h4]
  rw [ht, bP_s, if_pos rfl]
  exact hj (σ', τ', s0.2.2) h3
/-- a call that only answers: a long, an int -/
theorem stepL {f : Option (Int64 × Wd)} {G : Wd → Option (Int64 × Wd)} (hs : Sim f (G s0.2.1)) (hj : ∀ s : W3, RR s.1 s.2.1 → j s = some ()) :
    (bS (liC s0 f) fun v42 s41 => bS (liM s41 (G s41.2.1)) fun v44 s43 => if (lg_cmp v42 v44) = 0 then j s43 else none) = some () := by
  obtain ⟨v, σ', τ', h1, h2, h3⟩ := hs
  rw [h1]
  show (bS (liM (σ', s0.2.1, s0.2.2) (G s0.2.1)) fun v44 s43 => if (lg_cmp v v44) = 0 then j s43 else none) = _
  rw [h2]
  show (if (lg_cmp v v) = 0 then j (σ', τ', s0.2.2) else none) = _
  rw [if_pos (by rw [lg_cmp_eq])]
  exact hj (σ', τ', s0.2.2) h3
theorem stepI {f : Option (Int32 × Wd)} {G : Wd → Option (Int32 × Wd)} (hs : Sim f (G s0.2.1)) (hj : ∀ s : W3, RR s.1 s.2.1 → j s = some ()) :
    (bS (liC s0 f) fun v42 s41 => bS (liM s41 (G s41.2.1)) fun v44 s43 => if v42 = v44 then j s43 else none) = some () := by
  obtain ⟨v, σ', τ', h1, h2, h3⟩ := hs
  rw [h1]
  show (bS (liM (σ', s0.2.1, s0.2.2) (G s0.2.1)) fun v44 s43 => if v = v44 then j s43 else none) = _
  rw [h2]
  show (if v = v then j (σ', τ', s0.2.2) else none) = _
  rw [if_pos rfl]
  exact hj (σ', τ', s0.2.2) h3
theorem stepP {v : Int32} {f : Option Int32} {G : Wd → Option (Int32 × Wd)} {τ' : Wd} (h1 : f = some v) (h2 : G s0.2.1 = some (v, τ')) (h3 : RR s0.1 τ') (hj : ∀ s : W3, RR s.1 s.2.1 → j s = some ()) :
    (bP f fun v35 => bS (liM s0 (G s0.2.1)) fun v37 s36 => if v35 = v37 then j s36 else none) = some () := by
  rw [h1, bP_s, h2]
  show (if v = v then j (s0.1, τ', s0.2.2) else none) = _
  rw [if_pos rfl]
  exact hj (s0.1, τ', s0.2.2) h3
theorem stepM {f : Option Wd} {G : Wd → Option Wd} (h : ∃ σ' τ', f = some σ' ∧ G s0.2.1 = some τ' ∧ RR σ' τ') (hj : ∀ s : W3, RR s.1 s.2.1 → j s = some ()) :
    (bP (lvC s0 f) fun s183 => bP (lvM s183 (G s183.2.1)) fun s184 => j s184) = some () := by
  obtain ⟨σ', τ', h1, h2, h3⟩ := h
  rw [h1]
  show (bP (lvM (σ', s0.2.1, s0.2.2) (G s0.2.1)) fun s184 => j s184) = _
  rw [h2]
  exact hj (σ', τ', s0.2.2) h3
end step
set_option maxHeartbeats 4000000 in
set_option maxRecDepth 100000 in
theorem law_step {N L : Nat} {xs : Nat → Int32} (hN : 5000 ≤ N) (hL : L ≤ 2560) {k n : Nat} (hk : 5 * k + 5 ≤ L) {s0 : W3} (h : RR s0.1 s0.2.1) (hj : ∀ s : W3, RR s.1 s.2.1 → fl_L_law N L xs n (nI (5 * k) + 5) s = some ()) : fl_L_law N L xs (n + 1) (nI (5 * k)) s0 = some () := by
  have hcond : ¬ (Int32.ofNat L) - 5 < nI (5 * k) := by
    show ¬ nI L - nI 5 < nI (5 * k)
    rw [pk_sub (by omega)]
    exact nI_nlt (by omega) (by omega)
  have e0 : ∀ K : Int32 → Option Unit, sG L xs (nI (5 * k)) K = K (xs (5 * k)) := fun K => sG_n K (by omega) (by omega)
  have e1 : ∀ K : Int32 → Option Unit, sG L xs (nI (5 * k) + 1) K = K (xs (5 * k + 1)) := fun K => by rw [nI_1]; exact sG_n K (by omega) (by omega)
  have e2 : ∀ K : Int32 → Option Unit, sG L xs (nI (5 * k) + 2) K = K (xs (5 * k + 2)) := fun K => by rw [lq2, nI_add]; exact sG_n K (by omega) (by omega)
  have e3 : ∀ K : Int32 → Option Unit, sG L xs (nI (5 * k) + 3) K = K (xs (5 * k + 3)) := fun K => by rw [lq3, nI_add]; exact sG_n K (by omega) (by omega)
  have e4 : ∀ K : Int32 → Option Unit, sG L xs (nI (5 * k) + 4) K = K (xs (5 * k + 4)) := fun K => by rw [show (4 : Int32) = nI 4 from rfl, nI_add]; exact sG_n K (by omega) (by omega)
  obtain ⟨t, ht⟩ := id h
  rw [fl_L_law, if_neg hcond, e0, jn_e]
  generalize hJ : (fun s2 : W3 => fl_L_law N L xs n (nI (5 * k) + 5) s2) = J
  have hj' : ∀ s : W3, RR s.1 s.2.1 → J s = some () := fun s hs => by rw [← hJ]; exact hj s hs
  generalize xs (5 * k) &&& 31 = c
  by_cases h0 : c = 0
  · rw [if_pos h0, e1]
    simp only [e1, jn_e]
    by_cases q : xs (5 * k + 1) = 0
    · rw [if_pos q]
      simp only [if_pos q]
      exact stepX (G := fun τ => f_X8_node N τ 0) (wr_node h false) hj'
    · rw [if_neg q]
      simp only [if_neg q]
      exact stepX (G := fun τ => f_X8_node N τ 1) (wr_node h true) hj'
  rw [if_neg h0]
  by_cases h1 : c = 1
  · rw [if_pos h1]
    simp only [e1, e2, e3, jn_e]
    exact stepX (G := fun τ => f_X8_wire N τ _ _ _) (wr_wire h hN _ _ _) hj'
  rw [if_neg h1]
  by_cases h2 : c = 2
  · rw [if_pos h2]
    simp only [e1, e2, jn_e]
    exact stepX (G := fun τ => f_X8_wireIs N τ _ _) (wr_wireIs h hN _ _) hj'
  rw [if_neg h2]
  by_cases h3 : c = 3
  · rw [if_pos h3]
    obtain ⟨a1, a2, a3⟩ := sim_nodes (N := N) ht
    exact stepP (G := fun τ => f_X8_nodes N τ) a1 a2 a3 hj'
  rw [if_neg h3]
  by_cases h4 : c = 4
  · rw [if_pos h4]
    obtain ⟨a1, a2, a3⟩ := sim_wires (N := N) ht
    exact stepP (G := fun τ => f_X8_wires N τ) a1 a2 a3 hj'
  rw [if_neg h4]
  by_cases h5 : c = 5
  · rw [if_pos h5]
    exact stepL (G := fun τ => f_X8_trees N τ) (sim_trees ht hN) hj'
  rw [if_neg h5]
  by_cases h6 : c = 6
  · rw [if_pos h6]
    exact stepL (G := fun τ => f_X8_treesAnew N τ) (sim_treesAnew ht hN) hj'
  rw [if_neg h6]
  by_cases h7 : c = 7
  · rw [if_pos h7]
    simp only [e1, jn_e]
    exact stepX (G := fun τ => f_X8_tree N τ _) (wr_tree h hN _) hj'
  rw [if_neg h7]
  by_cases h8 : c = 8
  · rw [if_pos h8]
    exact stepL (G := fun τ => f_X8_rest N τ) (sim_rest ht hN) hj'
  rw [if_neg h8]
  by_cases h9 : c = 9
  · rw [if_pos h9]
    simp only [e1, e2, e3, jn_e]
    by_cases q : xs (5 * k + 3) = 0
    · simp only [if_pos q]
      exact stepX (conv := id) (G := fun τ => f_X8_answer N τ _ _ 0) (wr_answer h hN _ _ 0) hj'
    · simp only [if_neg q]
      exact stepX (conv := id) (G := fun τ => f_X8_answer N τ _ _ 1) (wr_answer h hN _ _ 1) hj'
  rw [if_neg h9]
  by_cases h10 : c = 10
  · rw [if_pos h10]
    simp only [e1, e2, jn_e]
    exact stepU (G := fun τ => f_X8_value N τ _ _) (wr_value h _ _) hj'
  rw [if_neg h10]
  by_cases h11 : c = 11
  · rw [if_pos h11]
    simp only [e1, e2, jn_e]
    by_cases q : xs (5 * k + 2) = 0
    · simp only [if_pos q]
      exact stepX (conv := id) (G := fun τ => f_X8_potential N τ _ 0) (wr_potential h hN _ 0) hj'
    · simp only [if_neg q]
      exact stepX (conv := id) (G := fun τ => f_X8_potential N τ _ 1) (wr_potential h hN _ 1) hj'
  rw [if_neg h11]
  by_cases h12 : c = 12
  · rw [if_pos h12]
    simp only [e1, e2, jn_e]
    by_cases q : xs (5 * k + 2) = 0
    · simp only [if_pos q]
      exact stepX (conv := id) (G := fun τ => f_X8_current N τ _ 0) (wr_current h hN _ 0) hj'
    · simp only [if_neg q]
      exact stepX (conv := id) (G := fun τ => f_X8_current N τ _ 1) (wr_current h hN _ 1) hj'
  rw [if_neg h12]
  by_cases h13 : c = 13
  · rw [if_pos h13]
    simp only [e1, jn_e]
    by_cases q : xs (5 * k + 1) = 0
    · simp only [if_pos q]
      exact stepL (G := fun τ => f_X8_power N τ 0) (sim_power ht hN 0) hj'
    · simp only [if_neg q]
      exact stepL (G := fun τ => f_X8_power N τ 1) (sim_power ht hN 1) hj'
  rw [if_neg h13]
  by_cases h14 : c = 14
  · rw [if_pos h14]
    simp only [e1, e2, e3, jn_e]
    by_cases q : xs (5 * k + 3) = 0
    · simp only [if_pos q]
      exact stepX (conv := id) (G := fun τ => f_X8_distance N τ _ _ 0) (wr_distance h hN _ _ 0) hj'
    · simp only [if_neg q]
      exact stepX (conv := id) (G := fun τ => f_X8_distance N τ _ _ 1) (wr_distance h hN _ _ 1) hj'
  rw [if_neg h14]
  by_cases h15 : c = 15
  · rw [if_pos h15]
    simp only [e1, e2, e3, e4, jn_e]
    by_cases q : xs (5 * k + 4) = 0
    · simp only [if_pos q]
      exact stepX (conv := id) (G := fun τ => f_X8_chance N τ _ _ _ 0) (wr_chance h hN _ _ _ 0) hj'
    · simp only [if_neg q]
      exact stepX (conv := id) (G := fun τ => f_X8_chance N τ _ _ _ 1) (wr_chance h hN _ _ _ 1) hj'
  rw [if_neg h15]
  by_cases h16 : c = 16
  · rw [if_pos h16]
    simp only [e1, jn_e]
    exact stepX (G := fun τ => f_X8_erased N τ _) (wr_erased h hN _) hj'
  rw [if_neg h16]
  by_cases h17 : c = 17
  · rw [if_pos h17]
    simp only [e1, e2, jn_e]
    by_cases q : xs (5 * k + 2) = 0
    · simp only [if_pos q]
      exact stepX (conv := id) (G := fun τ => f_X8_starred N τ _ 0) (wr_starred h hN _ 0) hj'
    · simp only [if_neg q]
      exact stepX (conv := id) (G := fun τ => f_X8_starred N τ _ 1) (wr_starred h hN _ 1) hj'
  rw [if_neg h17]
  by_cases h18 : c = 18
  · rw [if_pos h18]
    simp only [e1, e2, jn_e]
    exact stepU (G := fun τ => f_X8_move N τ _ _) (wr_move h hN _ _) hj'
  rw [if_neg h18]
  by_cases h19 : c = 19
  · rw [if_pos h19]
    simp only [jn_e]
    exact stepX (G := fun τ => f_X8_undo N τ) (wr_undo h hN) hj'
  rw [if_neg h19]
  by_cases h20 : c = 20
  · rw [if_pos h20]
    exact stepI (G := fun τ => f_X8_simplify N τ) (sim_simplify ht hN) hj'
  rw [if_neg h20]
  by_cases h21 : c = 21
  · rw [if_pos h21]
    exact stepM (G := fun τ => f_X8_mark N τ) (sim_mark ht hN) hj'
  rw [if_neg h21]
  by_cases h22 : c = 22
  · rw [if_pos h22]
    exact stepI (G := fun τ => f_X8_keeps N τ) (sim_keeps ht hN) hj'
  rw [if_neg h22]
  exact hj' s0 h
theorem law_loop {N L : Nat} {xs : Nat → Int32} (hN : 5000 ≤ N) (hL : L ≤ 2560) : ∀ n k (s : W3), k + n = 512 → RR s.1 s.2.1 → fl_L_law N L xs (n + 1) (nI (5 * k)) s = some () := by
  have stop : ∀ n k (s : W3), k ≤ 512 → L < 5 * k + 5 → fl_L_law N L xs (n + 1) (nI (5 * k)) s = some () := fun n k s hk h => by
    have hc : (Int32.ofNat L) - 5 < nI (5 * k) := by
      show nI L - nI 5 < nI (5 * k)
      rw [Int32.lt_iff_toInt_lt, pk_sub_toInt (by omega) (by omega), nI_toInt (by omega)]
      omega
    rw [fl_L_law, if_pos hc]
  intro n
  induction n with
  | zero =>
    intro k s hk h
    exact stop 0 k s (by omega) (by omega)
  | succ n ih =>
    intro k s hk h
    by_cases hq : L < 5 * k + 5
    · exact stop (n + 1) k s (by omega) hq
    · refine law_step hN hL (by omega) h (fun s' hs' => ?_)
      have := ih (k + 1) s' (by omega) hs'
      rw [show (5 : Int32) = nI 5 from rfl, nI_add, show 5 * k + 5 = 5 * (k + 1) by omega]
      exact this
