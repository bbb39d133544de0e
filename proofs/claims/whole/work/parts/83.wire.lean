/-! WIRE. -/
section wire
variable {N : Nat} {σ τ : Wd} {t : Nt}
/-- an int from 1 to 60 -/
theorem cond_cases (x : Int32) : (x < 1 ∨ 60 < x) ∨ ∃ c, 1 ≤ c ∧ c ≤ 60 ∧ x = nI c := by
  by_cases h1 : x < 1
  · exact Or.inl (Or.inl h1)
  · by_cases h2 : 60 < x
    · exact Or.inl (Or.inr h2)
    · right
      have h0 : ¬ x < 0 := fun z => h1 (by rw [Int32.lt_iff_toInt_lt] at *; rw [show (0 : Int32).toInt = 0 from rfl] at z; rw [show (1 : Int32).toInt = 1 from rfl]; omega)
      obtain ⟨c, hc, rfl⟩ := nI_of h0
      refine ⟨c, ?_, ?_, rfl⟩
      · exact Nat.le_of_not_lt (fun z => h1 (nI_lt (b := 1) z (by omega)))
      · exact Nat.le_of_not_lt (fun z => h2 (nI_lt (a := 60) z hc))
theorem v_isCond (x : Int32) : f_X7_isConductance N x = some (bI (!(decide (x < 1)) && !(decide (60 < x)))) := by
  unfold f_X7_isConductance
  by_cases h1 : x < 1
  · rw [if_pos h1, decide_eq_true h1]; rfl
  · rw [if_neg h1, decide_eq_false h1]
    by_cases h2 : 60 < x
    · rw [if_pos h2, decide_eq_true h2]; rfl
    · rw [if_neg h2, decide_eq_false h2]; rfl
theorem v_in60 (x : Int32) : f_X8_in N x 1 60 = some (bI (!(decide (x < 1)) && !(decide (60 < x)))) := by
  unfold f_X8_in
  by_cases h1 : x < 1
  · rw [if_pos h1, decide_eq_true h1]; rfl
  · rw [if_neg h1, decide_eq_false h1]
    by_cases h2 : 60 < x
    · rw [if_pos h2, decide_eq_true h2]; rfl
    · rw [if_neg h2, decide_eq_false h2]; rfl
theorem sim_wire (h : RT σ τ t) (hN : 5000 ≤ N) (x y c : Int32) : SimX id (f_X7_wire N σ x y c) (f_X8_wire N τ x y c) := by
  obtain ⟨h1, h2, i, h4, ⟨mE, a1, a2, a3, a4, a5⟩, -⟩ := id h
  have hw := i.nW
  have h7 := i.nd7
  have h20 := i.wr20
  have hfew := i.few
  have thr : ∀ q : Nat, (q = 1 ∨ q = 2 ∨ q = 3) → SimX id (some (Sum.inl q, σ) : Option ((Nat ⊕ Int32) × Wd)) (some ((0 : Int32), sI τ 0 0 (nI q))) := fun q hq => ⟨σ, sI τ 0 0 (nI q), ⟨t, h.eq (EqC.rfl' σ) (EqM.thr τ _)⟩, Or.inl ⟨q, 0, hq, rfl, rfl, thr_0 _ _⟩⟩
  unfold f_X7_wire f_X8_wire
  rw [v_needNode h1 i, v_isNode8 h2 i, v_isNode8 h2 i, v_in60]
  simp only [bP_s, jn_e, wI, gI, thr_0, if_bI0]
  cases hx : inS t.nd x
  · exact thr 1 (Or.inl rfl)
  · simp only [if_true, bX]
    rw [v_needNode h1 i]
    cases hy : inS t.nd y
    · exact thr 1 (Or.inl rfl)
    · simp only [if_true]
      rw [v_isCond, bP_s, if_bI0]
      rcases cond_cases c with q | ⟨c, c1, c2, rfl⟩
      · have e : (!(decide (c < 1)) && !(decide (60 < c))) = false := by
          rcases q with q | q
          · rw [decide_eq_true q]; rfl
          · rw [decide_eq_true q]; simp
        rw [e]
        exact thr 2 (Or.inr (Or.inl rfl))
      · have e : (!(decide (nI c < 1)) && !(decide (60 < nI c))) = true := by
          rw [decide_eq_false (show ¬ nI c < 1 from nI_nlt (b := 1) c1 (by omega)), decide_eq_false (show ¬ (60 : Int32) < nI c from nI_nlt (a := 60) c2 (by omega))]; rfl
        rw [e]
        simp only [if_true]
        have hr := v_hasRoom (N := N) h1 i (a := 0) (b := 1) (by omega) (by omega)
        rw [show nI 1 = (1 : Int32) from rfl, show nI 0 = (0 : Int32) from rfl] at hr
        have hn := i.nN
        rw [hr, bP_s, if_bI0, h2.nW, h2.wr, v_many (by omega) (by omega), bP_s, h1.wr, v_bitCount (by omega), bP_s]
        by_cases q : t.nW = 20
        · rw [decide_eq_false (by omega), q, if_pos (show nI 20 = 20 from rfl), if_neg (by decide), if_neg (by decide)]
          exact thr 3 (Or.inr (Or.inr rfl))
        · rw [decide_eq_true (by omega), if_pos rfl, if_neg (show ¬ nI t.nW = 20 from fun z => q ((nI_eq (b := 20) (by omega) (by omega)).mp z))]
          by_cases q2 : pc t.wr = 12
          · rw [q2, if_neg (show ¬ nI 12 < 12 by decide), if_pos (show nI 12 = 12 from rfl), if_neg (by decide)]
            exact thr 3 (Or.inr (Or.inr rfl))
          · rw [if_pos (show nI (pc t.wr) < 12 from nI_lt (b := 12) (by omega) (by omega)), if_neg (show ¬ nI (pc t.wr) = 12 from fun z => q2 ((nI_eq (b := 12) (by omega) (by omega)).mp z)), if_pos (show (0 : Int32) ≤ 0 by decide)]
            obtain ⟨a, ha, rfl, hab⟩ := inS_elim (n := 7) h7 (by omega) hx
            obtain ⟨b, hb, rfl, hbb⟩ := inS_elim (n := 7) h7 (by omega) hy
            have rf : RN (sI σ 28 9 0) t := h1.same (fun p _ _ => sI_place (by omega))
            have mf : RM (sI (sI τ 0 0 0) 0 10 0) t := (h2.slot (Or.inl rfl) 0).slot (Or.inr (by omega)) 0
            obtain ⟨s1, e1, g1, g2, g3⟩ := v_addWire (N := N) rf i (by omega) a b c
            obtain ⟨u1, k1, l1, l2, l3, l4⟩ := m_addsWire (N := N) mf i (by omega) a b c
            have hff : f_X3_forget N σ = some (sI σ 28 9 0) := rfl
            have i' : IN (t.addW a b c) := i.addW (by omega) (by omega) hab hbb ⟨c1, c2⟩
            refine ⟨s1, u1, ⟨t.addW a b c, g1, l1, i', fun j hj => ?_, ⟨mE, ?_, ?_, a3, ?_, fun x y hxy hy hx' hy' => ?_⟩, 0, fun _ => ((0, 0, 0, 0), fun _ => 0), ?_, ?_, ?_, fun j hj => absurd hj (Nat.not_lt_zero j)⟩, Or.inr ⟨nI t.nW, ?_, ?_, ?_⟩⟩
            · rw [g2 57 (by omega), sI_place (by omega), l2 4 (by omega), sI_place (by omega), sI_place (by omega)]; exact h4 j hj
            · rw [g2 40 (by omega), sI_place (by omega)]; exact a1
            · rw [l3 15 (by omega), sI_slot (by omega), sI_slot (by omega)]; exact a2
            · rw [l3 14 (by omega), sI_slot (by omega), sI_slot (by omega)]; exact a4
            · rw [g3, l4]; exact a5 x y hxy hy hx' hy'
            · rw [g2 28 (by omega)]; exact sI_same _ _ _ _
            · rw [l3 10 (by omega)]; exact sI_same _ _ _ _
            · have := i'.few; omega
            · rw [hff, bP_s, e1, bS_s]
            · rw [k1, bS_s]
            · rw [l3 0 (by omega), sI_slot (by omega)]; exact thr_0 _ _
end wire
