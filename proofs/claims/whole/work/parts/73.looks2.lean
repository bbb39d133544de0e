/-! MORE CALLS THAT ONLY LOOK. -/
section looks2
variable {N : Nat} {σ τ : Wd} {t : Nt}
theorem thrK {τ τ' : Wd} {v : Int32} (h : FrM (sI τ 0 0 v) τ') : τ'.1 0 0 = v := by rw [h.2 0 (by omega) (by omega)]; exact thr_0 _ _
theorem sim_distance (h : RT σ τ t) (hN : 5000 ≤ N) (x y b : Int32) : SimX id (f_X7_distance N σ x y b) (f_X8_distance N τ x y b) := by
  have i := h.2.2.1
  have h7 := i.nd7
  unfold f_X7_distance f_X8_distance
  rw [v_needNode h.1 i, v_isNode8 h.2.1 i, v_isNode8 h.2.1 i]
  simp only [bP_s, jn_e, wI, gI, thr_0, if_bI0]
  cases hx : inS t.nd x
  · exact ⟨σ, sI τ 0 0 1, ⟨t, h.eq (EqC.rfl' σ) (EqM.thr τ 1)⟩, Or.inl ⟨1, 0, Or.inl rfl, rfl, rfl, thr_0 _ _⟩⟩
  · simp only [if_true, bX]
    rw [v_needNode h.1 i]
    cases hy : inS t.nd y
    · exact ⟨σ, sI τ 0 0 1, ⟨t, h.eq (EqC.rfl' σ) (EqM.thr τ 1)⟩, Or.inl ⟨1, 0, Or.inl rfl, rfl, rfl, thr_0 _ _⟩⟩
    · simp only [if_true]
      rw [if_pos (show (0 : Int32) ≤ 0 by decide)]
      by_cases e : x = y
      · rw [if_pos e, if_pos e]
        refine ⟨σ, sI τ 0 0 0, ⟨t, h.eq (EqC.rfl' σ) (EqM.thr τ 0)⟩, Or.inr ⟨if b = 0 then 0 else 1, ?_, ?_, thr_0 _ _⟩⟩
        · rw [show (0 : Int64) = lZ 0 from rfl, show (1 : Int64) = lN 1 from rfl, v_partOf (by omega) (by omega) (by omega) (by omega), bP_s]
          unfold prt
          rw [if_neg (by omega)]
          by_cases q : b = 0
          · rw [if_pos q]; rw [show lZ 0 / lN (Nat.gcd 1 (Int.natAbs 0)) = lZ 0 by decide]
          · rw [if_neg q]; rw [show lN 1 / lN (Nat.gcd 1 (Int.natAbs 0)) = lN 1 by decide]
        · by_cases q : b = 0
          · rw [if_pos q, if_pos q]
          · rw [if_neg q, if_neg q]
      · rw [if_neg e, if_neg e]
        obtain ⟨a, ha, rfl, hab⟩ := inS_elim (n := 7) h7 (by omega) hx
        obtain ⟨c, hc, rfl, hcb⟩ := inS_elim (n := 7) h7 (by omega) hy
        have hac : a ≠ c := fun q => e (by rw [q])
        obtain ⟨s1, e1, f1⟩ := v_count (N := N) h.1 i (by omega) (two_lt ha hc) (pc_mono (two_in hab hcb))
        obtain ⟨s2, e2, f2⟩ := v_countTrees (N := N) (f1.RN h.1) i (by omega)
        obtain ⟨u1, g1, k1⟩ := m_apart (N := N) ((EqM.thr τ 0).RM h.2.1) i hN ha hc hac
        obtain ⟨u2, g2, k2⟩ := m_trees (N := N) (k1.RM ((EqM.thr τ 0).RM h.2.1)) i hN
        have b1 := cnt_lt i (2 ^ a ||| 2 ^ c) 0 0
        have b2 := cnt_lt i 1 0 0
        refine ⟨s2, u2, ⟨t, h.eq (f1.eq.trans f2.eq) ((EqM.thr τ 0).trans (k1.eq.trans k2.eq))⟩, Or.inr ⟨prt (cntC t (2 ^ a ||| 2 ^ c) 0 0 : Nat) (cntC t 1 0 0) b, ?_, ?_, thrK (k1.trans k2)⟩⟩
        · rw [v_setOf (by omega), bP_s, v_setOf (by omega), bP_s, fa_or, e1, bS_s, e2, bS_s, lN_lZ (cntC t (2 ^ a ||| 2 ^ c) 0 0), v_partOf (by omega) (by omega) (by omega) (by omega), bP_s]
        · rw [g1, bS_s, g2, bS_s, lN_lZ (cntC t (2 ^ a ||| 2 ^ c) 0 0), v_part (by omega) (by omega) (by omega) (by omega), bP_s]
theorem sim_chance (h : RT σ τ t) (hN : 5000 ≤ N) (z x y b : Int32) : SimX id (f_X7_chance N σ z x y b) (f_X8_chance N τ z x y b) := by
  have i := h.2.2.1
  have h7 := i.nd7
  unfold f_X7_chance f_X8_chance
  rw [v_needNode h.1 i, v_isNode8 h.2.1 i, v_isNode8 h.2.1 i, v_isNode8 h.2.1 i]
  simp only [bP_s, jn_e, wI, gI, thr_0, if_bI0]
  cases hz : inS t.nd z
  · exact ⟨σ, sI τ 0 0 1, ⟨t, h.eq (EqC.rfl' σ) (EqM.thr τ 1)⟩, Or.inl ⟨1, 0, Or.inl rfl, rfl, rfl, thr_0 _ _⟩⟩
  · simp only [if_true, bX]
    rw [v_needNode h.1 i]
    cases hx : inS t.nd x
    · exact ⟨σ, sI τ 0 0 1, ⟨t, h.eq (EqC.rfl' σ) (EqM.thr τ 1)⟩, Or.inl ⟨1, 0, Or.inl rfl, rfl, rfl, thr_0 _ _⟩⟩
    · simp only [if_true]
      rw [v_needNode h.1 i]
      cases hy : inS t.nd y
      · exact ⟨σ, sI τ 0 0 1, ⟨t, h.eq (EqC.rfl' σ) (EqM.thr τ 1)⟩, Or.inl ⟨1, 0, Or.inl rfl, rfl, rfl, thr_0 _ _⟩⟩
      · simp only [if_true]
        by_cases e : x = y
        · rw [if_pos e, if_pos e]
          exact ⟨σ, sI τ 0 0 2, ⟨t, h.eq (EqC.rfl' σ) (EqM.thr τ 2)⟩, Or.inl ⟨2, 0, Or.inr (Or.inl rfl), rfl, rfl, thr_0 _ _⟩⟩
        · rw [if_neg e, if_neg e, if_pos (show (0 : Int32) ≤ 0 by decide)]
          obtain ⟨d, hd, rfl, hdb⟩ := inS_elim (n := 7) h7 (by omega) hz
          obtain ⟨a, ha, rfl, hab⟩ := inS_elim (n := 7) h7 (by omega) hx
          obtain ⟨c, hc, rfl, hcb⟩ := inS_elim (n := 7) h7 (by omega) hy
          have hac : a ≠ c := fun q => e (by rw [q])
          obtain ⟨s1, e1, f1⟩ := v_countWith (N := N) h.1 i (by omega) (two_lt ha hc) (pc_mono (two_in hab hcb)) hd ha
          obtain ⟨s2, e2, f2⟩ := v_count (N := N) (f1.RN h.1) i (by omega) (two_lt ha hc) (pc_mono (two_in hab hcb))
          obtain ⟨u1, g1, k1⟩ := m_apartw (N := N) ((EqM.thr τ 0).RM h.2.1) i hN ha hc hac hd
          obtain ⟨u2, g2, k2⟩ := m_apart (N := N) (k1.RM ((EqM.thr τ 0).RM h.2.1)) i hN ha hc hac
          have b1 := cnt_lt i (2 ^ a ||| 2 ^ c) d a
          have b2 := cnt_lt i (2 ^ a ||| 2 ^ c) 0 0
          refine ⟨s2, u2, ⟨t, h.eq (f1.eq.trans f2.eq) ((EqM.thr τ 0).trans (k1.eq.trans k2.eq))⟩, Or.inr ⟨prt (cntC t (2 ^ a ||| 2 ^ c) d a : Nat) (cntC t (2 ^ a ||| 2 ^ c) 0 0) b, ?_, ?_, thrK (k1.trans k2)⟩⟩
          · rw [v_setOf (by omega), bP_s, v_setOf (by omega), bP_s]
            simp only [lI]
            rw [fa_or, e1, bS_s, e2, bS_s, lN_lZ (cntC t (2 ^ a ||| 2 ^ c) d a), v_partOf (by omega) (by omega) (by omega) (by omega), bP_s]
          · rw [g1, bS_s, g2, bS_s, lN_lZ (cntC t (2 ^ a ||| 2 ^ c) d a), v_part (by omega) (by omega) (by omega) (by omega), bP_s]
theorem sim_wireIs (h : RT σ τ t) (hN : 5000 ≤ N) (x y : Int32) : SimX id (f_X7_wireIs N σ x y) (f_X8_wireIs N τ x y) := by
  have i := h.2.2.1
  have h20 := i.wr20
  unfold f_X7_wireIs f_X8_wireIs f_X8_in
  rw [v_needWire h.1 i, v_isWire8 h.2.1 i]
  simp only [bP_s, jn_e, wI, gI, thr_0, if_bI0]
  cases hx : inS t.wr x
  · exact ⟨σ, sI τ 0 0 1, ⟨t, h.eq (EqC.rfl' σ) (EqM.thr τ 1)⟩, Or.inl ⟨1, 0, Or.inl rfl, rfl, rfl, thr_0 _ _⟩⟩
  · simp only [if_true, bX]
    obtain ⟨w, hw, rfl, hwb⟩ := inS_elim (n := 20) h20 (by omega) hx
    have hwn := bit_lt i.wr hwb
    have bad : SimX id (some (Sum.inl 2, σ) : Option ((Nat ⊕ Int32) × Wd)) (some ((0 : Int32), sI τ 0 0 2)) := ⟨σ, sI τ 0 0 2, ⟨t, h.eq (EqC.rfl' σ) (EqM.thr τ 2)⟩, Or.inl ⟨2, 0, Or.inr (Or.inl rfl), rfl, rfl, thr_0 _ _⟩⟩
    have good : ∀ v : Int32, SimX id (some (Sum.inr v, σ) : Option ((Nat ⊕ Int32) × Wd)) (some (v, sI τ 0 0 0)) := fun v => ⟨σ, sI τ 0 0 0, ⟨t, h.eq (EqC.rfl' σ) (EqM.thr τ 0)⟩, Or.inr ⟨v, rfl, rfl, thr_0 _ _⟩⟩
    by_cases h1 : y < 0
    · rw [if_pos h1, if_pos h1]
      exact bad
    · rw [if_neg h1, if_neg h1]
      by_cases h2 : y ≤ 2
      · rw [if_pos h2, if_neg (show ¬ 2 < y by rw [Int32.lt_iff_toInt_lt]; rw [Int32.le_iff_toInt_le] at h2; omega), bP_s]
        rw [if_neg (show ¬ (1 : Int32) = 0 by decide), if_pos (show (0 : Int32) ≤ 0 by decide)]
        by_cases a1 : y = 0
        · rw [if_pos a1, if_pos a1, v_firstOf h.1 hw, bP_s, rI_n hw (by omega), sI_place (by omega), h.2.1.f w hw]
          exact good _
        · rw [if_neg a1, if_neg a1]
          by_cases a2 : y = 1
          · rw [if_pos a2, if_pos a2, v_secondOf h.1 hw, bP_s, rI_n hw (by omega), sI_place (by omega), h.2.1.s w hw]
            exact good _
          · rw [if_neg a2, if_neg a2, v_conductanceOf h.1 hw hwn, bP_s, rI_n hw (by omega), sI_place (by omega), h.2.1.c w hw]
            exact good _
      · rw [if_neg h2, if_pos (show 2 < y by rw [Int32.lt_iff_toInt_lt]; rw [Int32.le_iff_toInt_le] at h2; omega), bP_s]
        exact bad
/-- the sets -/
theorem sim_nodes (h : RT σ τ t) : f_X7_nodes N σ = some (nI t.nd) ∧ f_X8_nodes N τ = some (nI t.nd, sI τ 0 0 0) ∧ RR σ (sI τ 0 0 0) := by
  refine ⟨?_, ?_, t, h.eq (EqC.rfl' σ) (EqM.thr τ 0)⟩
  · simp only [f_X7_nodes, gI, h.1.nd]
  · simp (disch := omega) only [f_X8_nodes, wI, gI, sI_slot, h.2.1.nd]
theorem sim_wires (h : RT σ τ t) : f_X7_wires N σ = some (nI t.wr) ∧ f_X8_wires N τ = some (nI t.wr, sI τ 0 0 0) ∧ RR σ (sI τ 0 0 0) := by
  refine ⟨?_, ?_, t, h.eq (EqC.rfl' σ) (EqM.thr τ 0)⟩
  · simp only [f_X7_wires, gI, h.1.wr]
  · simp (disch := omega) only [f_X8_wires, wI, gI, sI_slot, h.2.1.wr]
end looks2
