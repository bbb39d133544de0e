/-! SIMPLIFY. -/
section simplify
variable {N : Nat}
/-- no move of these, or the first one -/
def FsR (N : Nat) (t : Nt) (τ : Wd) (fC : (Wd → Option (Int32 × Wd)) → Option (Int32 × Wd)) (fM : (Wd → Option (Int32 × Wd)) → Option (Int32 × Wd)) : Prop :=
  (∃ σ' τ', RT σ' τ' t ∧ τ'.1 0 0 = τ.1 0 0 ∧ (∀ K, fC K = K σ') ∧ ∀ K, fM K = K τ') ∨
  (∃ σ' τ' t', RT σ' τ' t' ∧ τ'.1 0 0 = τ.1 0 0 ∧ pc t'.wr < pc t.wr ∧ (∀ K, fC K = some (1, σ')) ∧ ∀ K, fM K = some (1, τ'))
theorem do_easy {σ τ : Wd} {t : Nt} (h : RT σ τ t) (hN : 5000 ≤ N) {k w : Nat} (hk : k ≤ 3) (hv : (if (k == 0 || k == 1 || k == 5) = true then t.wr.testBit w else t.nd.testBit w) = true) : DoR N σ τ t (nI k) (nI w) True := by
  rcases (show k = 0 ∨ k = 1 ∨ k = 2 ∨ k = 3 by omega) with rfl | rfl | rfl | rfl
  · exact do_0 h hN hv
  · exact do_1 h hN hv
  · exact do_2 h hN hv
  · exact do_3 h hN hv
theorem first9 (hN : 5000 ≤ N) {k : Nat} (hk : k ≤ 3) : ∀ d w n (σ τ : Wd) (t : Nt), w + d = 20 → d < n → RT σ τ t → FsR N t τ (fun K => fl_X3_doFirstSimple_9 N (nI k) K n (nI w) σ) (fun K => fl_X8_simplifies_9 N (nI k) K n (nI w) τ) := by
  intro d
  induction d with
  | zero =>
    intro w n σ τ t hw hn h
    obtain ⟨n, rfl⟩ : ∃ m, n = m + 1 := ⟨n - 1, by omega⟩
    refine Or.inl ⟨σ, τ, h, rfl, fun K => ?_, fun K => ?_⟩
    · show fl_X3_doFirstSimple_9 N (nI k) K (n + 1) (nI w) σ = K σ
      rw [fl_X3_doFirstSimple_9, show w = 20 by omega, lq20, if_pos (nI_le (Nat.le_refl _) (by omega))]
    · show fl_X8_simplifies_9 N (nI k) K (n + 1) (nI w) τ = K τ
      rw [fl_X8_simplifies_9, show w = 20 by omega, lq20, if_pos (nI_le (Nat.le_refl _) (by omega))]
  | succ d ih =>
    intro w n σ τ t hw hn h
    obtain ⟨n, rfl⟩ : ∃ m, n = m + 1 := ⟨n - 1, by omega⟩
    have i := h.2.2.1
    have hlt : ¬ (20 : Int32) ≤ nI w := nI_ge (b := 20) (by omega) (by omega)
    have o7 := ofw7 (N := N) (k := k) (by omega)
    have o8 := ofw8 (N := N) (k := k) (by omega)
    -- whether there is such a wire or node
    have eC : ∀ K, fl_X3_doFirstSimple_9 N (nI k) K (n + 1) (nI w) σ = if (if (k == 0 || k == 1 || k == 5) = true then t.wr.testBit w else t.nd.testBit w) = true then (bS (f_X3_doIfPossible N σ (nI k) (nI w)) fun v4 s5 => if v4 = 0 then fl_X3_doFirstSimple_9 N (nI k) K n (nI (w + 1)) s5 else some (1, s5)) else fl_X3_doFirstSimple_9 N (nI k) K n (nI (w + 1)) σ := fun K => by
      rw [fl_X3_doFirstSimple_9, if_neg hlt, o7, bP_s]
      simp only [jn_e, if_bI0]
      rw [v_hasNode h.1 i, v_hasWire h.1 i, inS_n (by omega), inS_n (by omega)]
      simp only [bP_s, if_bI0, nI_1]
      cases (k == 0 || k == 1 || k == 5) <;> rfl
    have eM : ∀ K, fl_X8_simplifies_9 N (nI k) K (n + 1) (nI w) τ = if (if (k == 0 || k == 1 || k == 5) = true then t.wr.testBit w else t.nd.testBit w) = true then (bS (f_X8_isPossible N τ (nI k) (nI w)) fun v4 s5 => if v4 = 0 then fl_X8_simplifies_9 N (nI k) K n (nI (w + 1)) s5 else bP (f_X8_does N s5 (nI k) (nI w)) fun s6 => some (1, s6)) else fl_X8_simplifies_9 N (nI k) K n (nI (w + 1)) τ := fun K => by
      rw [fl_X8_simplifies_9, if_neg hlt, o8, bP_s]
      simp only [jn_e, if_bI0]
      rw [v_isNode8 h.2.1 i, v_isWire8 h.2.1 i, inS_n (by omega), inS_n (by omega)]
      simp only [bP_s, if_bI0, nI_1]
      cases (k == 0 || k == 1 || k == 5) <;> rfl
    cases hb : (if (k == 0 || k == 1 || k == 5) = true then t.wr.testBit w else t.nd.testBit w)
    · rw [hb] at eC eM
      rcases ih (w + 1) n σ τ t (by omega) (by omega) h with ⟨σ', τ', r, z, g1, g2⟩ | ⟨σ', τ', t', r, z, p, g1, g2⟩
      · exact Or.inl ⟨σ', τ', r, z, fun K => (eC K).trans (g1 K), fun K => (eM K).trans (g2 K)⟩
      · exact Or.inr ⟨σ', τ', t', r, z, p, fun K => (eC K).trans (g1 K), fun K => (eM K).trans (g2 K)⟩
    · rcases do_easy (N := N) h hN hk hb with ⟨σ1, τ1, h1, h2, h3, h4⟩ | ⟨σ', τ1, τ', t', h1, h2, h3, h4, h5, h6, h7⟩
      · rw [hb] at eC eM
        rw [h1] at eC
        rw [h2] at eM
        rcases ih (w + 1) n σ1 τ1 t (by omega) (by omega) h3 with ⟨σ', τ', r, z, g1, g2⟩ | ⟨σ', τ', t', r, z, p, g1, g2⟩
        · exact Or.inl ⟨σ', τ', r, z.trans h4, fun K => (eC K).trans (g1 K), fun K => (eM K).trans (g2 K)⟩
        · exact Or.inr ⟨σ', τ', t', r, z.trans h4, p, fun K => (eC K).trans (g1 K), fun K => (eM K).trans (g2 K)⟩
      · rw [hb] at eC eM
        rw [h1] at eC
        rw [h2] at eM
        refine Or.inr ⟨σ', τ', t', h4, h6, h7 trivial, fun K => (eC K).trans ?_, fun K => (eM K).trans ?_⟩
        · rw [if_pos rfl, bS_s, if_neg (by decide)]
        · rw [if_pos rfl, bS_s, if_neg (by decide), h3, bP_s]
theorem first2 (hN : 5000 ≤ N) : ∀ d k n (σ τ : Wd) (t : Nt), k + d = 4 → d < n → RT σ τ t → FsR N t τ (fun K => fl_X3_doFirstSimple_2 N K n (nI k) σ) (fun K => fl_X8_simplifies_2 N K n (nI k) τ) := by
  intro d
  induction d with
  | zero =>
    intro k n σ τ t hk hn h
    obtain ⟨n, rfl⟩ : ∃ m, n = m + 1 := ⟨n - 1, by omega⟩
    have h3 : (3 : Int32) < nI k := nI_lt (a := 3) (by omega) (by omega)
    refine Or.inl ⟨σ, τ, h, rfl, fun K => ?_, fun K => ?_⟩
    · show fl_X3_doFirstSimple_2 N K (n + 1) (nI k) σ = K σ
      rw [fl_X3_doFirstSimple_2, if_pos h3]
    · show fl_X8_simplifies_2 N K (n + 1) (nI k) τ = K τ
      rw [fl_X8_simplifies_2, if_pos h3]
  | succ d ih =>
    intro k n σ τ t hk hn h
    obtain ⟨n, rfl⟩ : ∃ m, n = m + 1 := ⟨n - 1, by omega⟩
    have h3 : ¬ (3 : Int32) < nI k := nI_nlt (a := 3) (by omega) (by omega)
    have eC : ∀ K, fl_X3_doFirstSimple_2 N K (n + 1) (nI k) σ = fl_X3_doFirstSimple_9 N (nI k) (fun s8 => fl_X3_doFirstSimple_2 N K n (nI (k + 1)) s8) N (nI 0) σ := fun K => by
      rw [fl_X3_doFirstSimple_2, if_neg h3, nI_1]; rfl
    have eM : ∀ K, fl_X8_simplifies_2 N K (n + 1) (nI k) τ = fl_X8_simplifies_9 N (nI k) (fun s9 => fl_X8_simplifies_2 N K n (nI (k + 1)) s9) N (nI 0) τ := fun K => by
      rw [fl_X8_simplifies_2, if_neg h3, nI_1]; rfl
    rcases first9 (N := N) hN (k := k) (by omega) 20 0 N σ τ t (by omega) (by omega) h with ⟨σ1, τ1, r, z, g1, g2⟩ | ⟨σ', τ', t', r, z, p, g1, g2⟩
    · rcases ih (k + 1) n σ1 τ1 t (by omega) (by omega) r with ⟨σ', τ', r', z', g1', g2'⟩ | ⟨σ', τ', t', r', z', p', g1', g2'⟩
      · exact Or.inl ⟨σ', τ', r', z'.trans z, fun K => ((eC K).trans (g1 _)).trans (g1' K), fun K => ((eM K).trans (g2 _)).trans (g2' K)⟩
      · exact Or.inr ⟨σ', τ', t', r', z'.trans z, p', fun K => ((eC K).trans (g1 _)).trans (g1' K), fun K => ((eM K).trans (g2 _)).trans (g2' K)⟩
    · exact Or.inr ⟨σ', τ', t', r, z, p, fun K => (eC K).trans (g1 _), fun K => (eM K).trans (g2 _)⟩
theorem simp_loop (hN : 5000 ≤ N) : ∀ p x n n' (σ τ : Wd) (t : Nt), pc t.wr ≤ p → x + p < 20 → p < n → p < n' → RT σ τ t →
    ∃ v σ' τ', fl_X7_simplify_2 N (fun v3 s4 => some (v3, s4)) n (nI x) σ = some (v, σ') ∧ fl_X8_simplify_7 N (fun v4 s5 => some (v4, s5)) n' (nI x) τ = some (v, τ') ∧ RR σ' τ' := by
  intro p
  induction p with
  | zero =>
    intro x n n' σ τ t hp hx hn hn' h
    obtain ⟨n, rfl⟩ : ∃ m, n = m + 1 := ⟨n - 1, by omega⟩
    obtain ⟨n', rfl⟩ : ∃ m, n' = m + 1 := ⟨n' - 1, by omega⟩
    have hlt : ¬ (20 : Int32) ≤ nI x := nI_ge (b := 20) (by omega) (by omega)
    rcases first2 (N := N) hN 4 0 N σ τ t (by omega) (by omega) h with ⟨σ1, τ1, r, z, g1, g2⟩ | ⟨σ', τ', t', r, z, p, g1, g2⟩
    · have c : f_X3_doFirstSimple N σ = some (0, σ1) := g1 _
      have m : f_X8_simplifies N τ = some (0, τ1) := g2 _
      refine ⟨nI x, σ1, τ1, ?_, ?_, t, r⟩
      · rw [fl_X7_simplify_2, if_neg hlt, c, bS_s, if_pos rfl]
      · rw [fl_X8_simplify_7, m, bS_s, if_pos rfl]
    · omega
  | succ p ih =>
    intro x n n' σ τ t hp hx hn hn' h
    obtain ⟨n, rfl⟩ : ∃ m, n = m + 1 := ⟨n - 1, by omega⟩
    obtain ⟨n', rfl⟩ : ∃ m, n' = m + 1 := ⟨n' - 1, by omega⟩
    have hlt : ¬ (20 : Int32) ≤ nI x := nI_ge (b := 20) (by omega) (by omega)
    rcases first2 (N := N) hN 4 0 N σ τ t (by omega) (by omega) h with ⟨σ1, τ1, r, z, g1, g2⟩ | ⟨σ1, τ1, t', r, z, hlt', g1, g2⟩
    · have c : f_X3_doFirstSimple N σ = some (0, σ1) := g1 _
      have m : f_X8_simplifies N τ = some (0, τ1) := g2 _
      refine ⟨nI x, σ1, τ1, ?_, ?_, t, r⟩
      · rw [fl_X7_simplify_2, if_neg hlt, c, bS_s, if_pos rfl]
      · rw [fl_X8_simplify_7, m, bS_s, if_pos rfl]
    · have c : f_X3_doFirstSimple N σ = some (1, σ1) := g1 _
      have m : f_X8_simplifies N τ = some (1, τ1) := g2 _
      obtain ⟨v, σ', τ', e1, e2, e3⟩ := ih (x + 1) n n' σ1 τ1 t' (by omega) (by omega) (by omega) (by omega) r
      refine ⟨v, σ', τ', ?_, ?_, e3⟩
      · rw [fl_X7_simplify_2, if_neg hlt, c, bS_s, if_neg (by decide), nI_1]; exact e1
      · rw [fl_X8_simplify_7, m, bS_s, if_neg (by decide), nI_1]; exact e2
theorem sim_simplify {σ τ : Wd} {t : Nt} (h : RT σ τ t) (hN : 5000 ≤ N) : Sim (f_X7_simplify N σ) (f_X8_simplify N τ) := by
  have hf := h.2.2.1.few
  obtain ⟨v, σ', τ', e1, e2, e3⟩ := simp_loop (N := N) hN 12 0 N N σ (sI τ 0 0 0) t hf (by omega) (by omega) (by omega) (h.eq (EqC.rfl' σ) (EqM.thr τ 0))
  exact ⟨v, σ', τ', e1, e2, e3⟩
end simplify
