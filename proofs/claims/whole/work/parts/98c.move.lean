/-! MOVE. -/
noncomputable def mv75 (N : Nat) (x y : Int32) (s5 : Wd) : Option Wd := gI s5 0 0 fun v6 => if v6 = 0 then (bP (f_X8_does N s5 x y) fun s7 => some s7) else some s5
noncomputable def mv47 (N : Nat) (τ : Wd) (x y v2 : Int32) : Option Wd := wI τ 0 0 v2 fun s3 => gI s3 0 0 fun v4 => if v4 = 0 then (bS (f_X8_isPossible N s3 x y) fun v8 s9 => if v8 = 0 then (wI s9 0 0 3 fun s11 => mv75 N x y s11) else (wI s9 0 0 0 fun s11 => mv75 N x y s11)) else mv75 N x y s3
section move
variable {N : Nat} {σ τ : Wd} {t : Nt}
theorem mv_eq (x y : Int32) : f_X8_move N τ x y = bP (f_X8_in N x 0 5) fun v1 => if v1 = 0 then mv47 N τ x y 2 else bP (f_X8_isOfWire N x) fun v12 => if v12 = 0 then (bP (f_X8_isNode N τ y) fun v13 => if v13 = 0 then mv47 N τ x y 1 else mv47 N τ x y 0) else (bP (f_X8_isWire N τ y) fun v14 => if v14 = 0 then mv47 N τ x y 1 else mv47 N τ x y 0) := rfl
theorem mv47_thr {x y v : Int32} (h : ¬ v = 0) : mv47 N τ x y v = some (sI τ 0 0 v) := by
  unfold mv47 mv75
  simp only [wI, gI]
  rw [thr_0, if_neg h, if_neg h]
theorem mv_fin (h : RT σ τ t) {kk y : Int32} {b : Bool} {easy : Prop} (hd : b = true → DoR N σ (sI τ 0 0 0) t kk y easy) :
    SimU id (bX (some (if b = true then Sum.inr () else Sum.inl 1, σ)) fun (_ : Unit) s2 => bS (f_X3_doIfPossible N s2 kk y) fun v3 s4 => if v3 = 0 then (some (Sum.inl 3, s4)) else (some (Sum.inr (), s4))) (if b = true then mv47 N τ kk y 0 else mv47 N τ kk y 1) := by
  cases b
  · rw [if_neg (by decide), if_neg (by decide), mv47_thr (by decide)]
    exact ⟨σ, sI τ 0 0 1, ⟨t, h.eq (EqC.rfl' σ) (EqM.thr τ 1)⟩, rfl, Or.inl ⟨1, Or.inl rfl, rfl, thr_0 _ _⟩⟩
  · rw [if_pos rfl, if_pos rfl]
    simp only [bX]
    unfold mv47 mv75
    simp only [wI, gI]
    rw [thr_0, if_pos rfl]
    rcases hd rfl with ⟨σ', τ1, h1, h2, h3, h4⟩ | ⟨σ', τ1, τ', t', h1, h2, h3, h4, h5, h6, -⟩
    · rw [h1, bS_s, if_pos rfl, h2, bS_s, if_pos rfl, thr_0, if_neg (by decide)]
      exact ⟨σ', sI τ1 0 0 3, ⟨t, h3.eq (EqC.rfl' σ') (EqM.thr τ1 3)⟩, rfl, Or.inl ⟨3, Or.inr (Or.inr rfl), rfl, thr_0 _ _⟩⟩
    · rw [thr_0] at h5 h6
      rw [h1, bS_s, if_neg (by decide), h2, bS_s, if_neg (by decide), thr_0, if_pos rfl, sI_id h5, h3, bP_s]
      exact ⟨σ', τ', ⟨t', h4⟩, rfl, Or.inr ⟨rfl, h6⟩⟩
theorem need_w (h : RT σ τ t) {kk y : Int32} (hk : f_X7_isOfWire N kk = some 1) : f_X7_needWireOrNode N σ kk y = some (if inS t.wr y = true then Sum.inr () else Sum.inl 1, σ) := by
  unfold f_X7_needWireOrNode
  rw [hk, bP_s, if_neg (by decide), v_needWire h.1 h.2.2.1]
  cases inS t.wr y <;> rfl
theorem need_n (h : RT σ τ t) {kk y : Int32} (hk : f_X7_isOfWire N kk = some 0) : f_X7_needWireOrNode N σ kk y = some (if inS t.nd y = true then Sum.inr () else Sum.inl 1, σ) := by
  unfold f_X7_needWireOrNode
  rw [hk, bP_s, if_pos rfl, v_needNode h.1 h.2.2.1]
  cases inS t.nd y <;> rfl
theorem in05 {k : Nat} (hk : k ≤ 5) : f_X8_in N (nI k) 0 5 = some 1 := by
  unfold f_X8_in
  rw [if_neg (nI_pos (by omega)), if_neg (show ¬ (5 : Int32) < nI k from nI_nlt (a := 5) hk (by omega))]
theorem move_w (h : RT σ τ t) {k : Nat} (hk : k ≤ 5) {y : Int32} {easy : Prop} (h7 : f_X7_isOfWire N (nI k) = some 1) (h8 : f_X8_isOfWire N (nI k) = some 1) (hd : inS t.wr y = true → DoR N σ (sI τ 0 0 0) t (nI k) y easy) : SimU id (f_X7_move N σ (nI k) y) (f_X8_move N τ (nI k) y) := by
  have hm := mv_fin h hd
  rw [mv_eq, in05 hk, bP_s, if_neg (by decide), h8, bP_s, if_neg (by decide), v_isWire8 h.2.1 h.2.2.1, bP_s, if_bI0]
  unfold f_X7_move
  simp only [jn_e]
  rw [if_neg (nI_pos (by omega)), if_neg (show ¬ (5 : Int32) < nI k from nI_nlt (a := 5) hk (by omega)), need_w h h7]
  exact hm
theorem move_n (h : RT σ τ t) {k : Nat} (hk : k ≤ 5) {y : Int32} {easy : Prop} (h7 : f_X7_isOfWire N (nI k) = some 0) (h8 : f_X8_isOfWire N (nI k) = some 0) (hd : inS t.nd y = true → DoR N σ (sI τ 0 0 0) t (nI k) y easy) : SimU id (f_X7_move N σ (nI k) y) (f_X8_move N τ (nI k) y) := by
  have hm := mv_fin h hd
  rw [mv_eq, in05 hk, bP_s, if_neg (by decide), h8, bP_s, if_pos rfl, v_isNode8 h.2.1 h.2.2.1, bP_s, if_bI0]
  unfold f_X7_move
  simp only [jn_e]
  rw [if_neg (nI_pos (by omega)), if_neg (show ¬ (5 : Int32) < nI k from nI_nlt (a := 5) hk (by omega)), need_n h h7]
  exact hm
theorem ofw7 {k : Nat} (hk : k ≤ 5) : f_X7_isOfWire N (nI k) = some (bI (k == 0 || k == 1 || k == 5)) := by
  unfold f_X7_isOfWire
  rcases (show k = 0 ∨ k = 1 ∨ k = 2 ∨ k = 3 ∨ k = 4 ∨ k = 5 by omega) with rfl | rfl | rfl | rfl | rfl | rfl <;> decide +kernel
theorem ofw8 {k : Nat} (hk : k ≤ 5) : f_X8_isOfWire N (nI k) = some (bI (k == 0 || k == 1 || k == 5)) := by
  unfold f_X8_isOfWire
  rcases (show k = 0 ∨ k = 1 ∨ k = 2 ∨ k = 3 ∨ k = 4 ∨ k = 5 by omega) with rfl | rfl | rfl | rfl | rfl | rfl <;> decide +kernel
theorem sim_move (h : RT σ τ t) (hN : 5000 ≤ N) (x y : Int32) : SimU id (f_X7_move N σ x y) (f_X8_move N τ x y) := by
  have i := h.2.2.1
  have h7 := i.nd7
  have h20 := i.wr20
  have hz : RT σ (sI τ 0 0 0) t := h.eq (EqC.rfl' σ) (EqM.thr τ 0)
  have thr : SimU id (some (Sum.inl 2, σ)) (some (sI τ 0 0 2)) := ⟨σ, sI τ 0 0 2, ⟨t, h.eq (EqC.rfl' σ) (EqM.thr τ _)⟩, rfl, Or.inl ⟨2, Or.inr (Or.inl rfl), rfl, thr_0 _ _⟩⟩
  by_cases h1 : x < 0
  · rw [mv_eq]
    unfold f_X7_move f_X8_in
    simp only [jn_e]
    rw [if_pos h1, if_pos h1, bP_s, if_pos rfl, mv47_thr (by decide)]
    exact thr
  · by_cases h2 : 5 < x
    · rw [mv_eq]
      unfold f_X7_move f_X8_in
      simp only [jn_e]
      rw [if_neg h1, if_neg h1, if_pos h2, if_pos h2, bP_s, if_pos rfl, mv47_thr (by decide)]
      exact thr
    · obtain ⟨k, hk, rfl⟩ := nI_of h1
      have hk5 : k ≤ 5 := Nat.le_of_not_lt (fun z => h2 (nI_lt (a := 5) z hk))
      have o7 := ofw7 (N := N) hk5
      have o8 := ofw8 (N := N) hk5
      rcases (show k = 0 ∨ k = 1 ∨ k = 2 ∨ k = 3 ∨ k = 4 ∨ k = 5 by omega) with rfl | rfl | rfl | rfl | rfl | rfl
      · exact move_w h hk5 o7 o8 (easy := True) (fun hy => by
          obtain ⟨w, _, rfl, hb⟩ := inS_elim (n := 20) h20 (by omega) hy
          exact do_0 hz hN hb)
      · exact move_w h hk5 o7 o8 (easy := True) (fun hy => by
          obtain ⟨w, _, rfl, hb⟩ := inS_elim (n := 20) h20 (by omega) hy
          exact do_1 hz hN hb)
      · exact move_n h hk5 o7 o8 (easy := True) (fun hy => by
          obtain ⟨w, _, rfl, hb⟩ := inS_elim (n := 7) h7 (by omega) hy
          exact do_2 hz hN hb)
      · exact move_n h hk5 o7 o8 (easy := True) (fun hy => by
          obtain ⟨w, _, rfl, hb⟩ := inS_elim (n := 7) h7 (by omega) hy
          exact do_3 hz hN hb)
      · exact move_n h hk5 o7 o8 (easy := False) (fun hy => by
          obtain ⟨w, _, rfl, hb⟩ := inS_elim (n := 7) h7 (by omega) hy
          exact do_4 hz hN hb)
      · exact move_w h hk5 o7 o8 (easy := False) (fun hy => by
          obtain ⟨w, _, rfl, hb⟩ := inS_elim (n := 20) h20 (by omega) hy
          exact do_5 hz hN hb)
end move
