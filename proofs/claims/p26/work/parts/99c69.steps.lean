/-! THE LAW'S CALLS THAT CHANGE SOMETHING. -/
section steps
variable {N : Nat} {σ ν : Wd} {mk : Int32} {t : Nt} {B : Prop}
theorem l_node (h : RT N σ ν mk t B) (hn : t.nN < 7) (b : Bool) : ∃ s1, f_L_node N σ (bI b) = some (nI t.nN, s1) ∧ RT N s1 (sI (sI (sI (sI (sI ν 0 1 (nI (t.nd ||| 2 ^ t.nN))) 0 2 (nI (if b then t.ed ||| 2 ^ t.nN else t.ed))) 9 t.nN 0) 0 0 (nI (t.nN + 1))) 0 5 0) mk (t.addN b) False := by
  obtain ⟨h1, h2, i, h4, ⟨mE, a1, a2, a3, a4⟩, -⟩ := id h
  have hw := i.nW
  have hr := v_hasRoom (N := N) h1 i (a := 1) (b := 0) (by omega) (by omega)
  rw [show nI 1 = (1 : Int32) from rfl, show nI 0 = (0 : Int32) from rfl] at hr
  have rf : RN (sI σ 28 9 0) t := h1.same (fun p _ _ => sI_place (by omega))
  obtain ⟨s1, e1, g1, g2, g3⟩ := v_addNode (N := N) rf i (by omega) b
  have hff : f_X3_forget N σ = some (sI σ 28 9 0) := rfl
  have hed : t.ed.testBit t.nN = false := Nat.testBit_lt_two_pow i.ed
  refine ⟨s1, ?_, g1, ⟨?_, ?_, ?_, ?_, ?_, fun w hw' => ?_, fun w hw' => ?_, fun w hw' => ?_⟩, i.addN (by omega) b, fun j hj => ?_, ⟨mE, ?_, fun k hk => ?_, a3, fun x y hxy hy hx' hy' => ?_⟩, 0, fun _ => ((0, 0, 0, 0), fun _ => 0), ?_, ?_, ?_, fun z => absurd (z.resolve_left id) (Nat.lt_irrefl 0), fun j hj => absurd hj (Nat.not_lt_zero j)⟩
  · unfold f_L_node f_X7_node
    rw [hr, bP_s, if_bI0, decide_eq_true (by omega), if_pos rfl]
    rw [hff, bP_s, e1, bS_s]; rfl
  · simp (disch := omega) only [sI_slot, sI_same]; rfl
  · simp (disch := omega) only [sI_slot, sI_place, sI_same]; rfl
  · simp (disch := omega) only [sI_slot, sI_place, sI_same]; rfl
  · simp (disch := omega) only [sI_slot, sI_place]; exact h2.nW
  · simp (disch := omega) only [sI_slot, sI_place]; exact h2.wr
  · simp (disch := omega) only [sI_place]; exact h2.f w hw'
  · simp (disch := omega) only [sI_place]; exact h2.s w hw'
  · simp (disch := omega) only [sI_place]; exact h2.c w hw'
  · obtain ⟨v1, v2, v3⟩ := h4 j hj
    rw [g2 57 (by omega), sI_place (by omega), v1]
    by_cases e : j = t.nN
    · subst e
      simp (disch := omega) only [sI_place, sI_same]
      exact ⟨v3 hed, ⟨by decide, by decide⟩, fun _ => trivial⟩
    · simp (disch := omega) only [sI_place, sI_slot]
      refine ⟨trivial, v2, fun z => v3 ?_⟩
      cases b
      · exact z
      · cases hb : t.ed.testBit j
        · rfl
        · rw [show (t.addN true).ed = t.ed ||| 2 ^ t.nN from rfl, or_bit.mpr (Or.inl hb)] at z; exact absurd z (by decide)
  · rw [g2 40 (by omega), sI_place (by omega)]; exact a1
  · cases b
    · exact a2 k hk
    · exact or_bit.mpr (Or.inl (a2 k hk))
  · rw [g3]; exact a4 x y hxy hy hx' hy'
  · rw [g2 28 (by omega)]; exact sI_same _ _ _ _
  · exact sI_same _ _ _ _
  · show 3 * 0 + 3 * pc t.wr ≤ 36 + t.nW
    have := i.few; omega
theorem l_wire_no (h : RT N σ ν mk t B) {a b c : Nat} (ha : a < 7) (hb : b < 7) (hno : (t.nd.testBit a && t.nd.testBit b) = false) : f_L_wire N σ (nI a) (nI b) (nI c) = some (-7100, σ) := by
  have i := h.2.2.1
  unfold f_L_wire f_X7_wire
  rw [v_needNode h.1 i, inS_n (by omega)]
  cases hx : t.nd.testBit a
  · rfl
  · rw [hx, Bool.true_and] at hno
    simp only [if_true, bX]
    rw [v_needNode h.1 i, inS_n (by omega), hno]
    rfl
theorem l_wire (h : RT N σ ν mk t B) {a b c : Nat} (hx : t.nd.testBit a = true) (hy : t.nd.testBit b = true) (hc : 1 ≤ c ∧ c ≤ 60) :
    (¬ (t.nW < 20 ∧ pc t.wr < 12) ∧ f_L_wire N σ (nI a) (nI b) (nI c) = some (-7300, σ)) ∨
    ((t.nW < 20 ∧ pc t.wr < 12) ∧ ∃ s1, f_L_wire N σ (nI a) (nI b) (nI c) = some (nI t.nW, s1) ∧ ∀ ν1, RQ ν1 (t.addW a b c) → FrL ν ν1 → RT N s1 (sI ν1 0 5 0) mk (t.addW a b c) False) := by
  obtain ⟨h1, h2, i, h4, ⟨mE, a1, a2, a3, a4⟩, -⟩ := id h
  have hw := i.nW
  have h7 := i.nd7
  have h20 := i.wr20
  have hfew := i.few
  have hn := i.nN
  have ha := bit7 h7 hx
  have hb := bit7 h7 hy
  have hr := v_hasRoom (N := N) h1 i (a := 0) (b := 1) (by omega) (by omega)
  rw [show nI 1 = (1 : Int32) from rfl, show nI 0 = (0 : Int32) from rfl] at hr
  have e : (!(decide (nI c < 1)) && !(decide (60 < nI c))) = true := by
    rw [decide_eq_false (show ¬ nI c < 1 from nI_nlt (b := 1) hc.1 (by omega)), decide_eq_false (show ¬ (60 : Int32) < nI c from nI_nlt (a := 60) hc.2 (by omega))]; rfl
  have key : f_L_wire N σ (nI a) (nI b) (nI c) = if t.nW < 20 ∧ pc t.wr < 12 then (bP (f_X3_forget N σ) fun s => bS (f_X4_addWire N s (nI a) (nI b) (nI c)) fun v s' => some (v, s')) else some (-7300, σ) := by
    unfold f_L_wire f_X7_wire
    rw [v_needNode h1 i, inS_n (by omega), hx]
    simp only [if_true, bX, jn_e]
    rw [v_needNode h1 i, inS_n (by omega), hy]
    simp only [if_true, bX]
    rw [v_isCond, bP_s, if_bI0, e, if_pos rfl, hr, bP_s, if_bI0]
    by_cases q : t.nW = 20
    · rw [decide_eq_false (by omega), if_neg (by decide), if_neg (by omega)]
      rfl
    · simp only [gI]
      rw [decide_eq_true (by omega), if_pos rfl, h1.wr, v_bitCount (by omega), bP_s]
      by_cases q2 : pc t.wr = 12
      · rw [q2, if_neg (show ¬ nI 12 < 12 by decide), if_neg (by omega)]
        rfl
      · rw [if_pos (show nI (pc t.wr) < 12 from nI_lt (b := 12) (by omega) (by omega)), if_pos (by omega)]
        cases f_X3_forget N σ with
        | none => rfl
        | some s =>
          show bH (bS (f_X4_addWire N s (nI a) (nI b) (nI c)) _) _ _ = bS (f_X4_addWire N s (nI a) (nI b) (nI c)) _
          cases f_X4_addWire N s (nI a) (nI b) (nI c) with
          | none => rfl
          | some v => rfl
  by_cases q : t.nW < 20 ∧ pc t.wr < 12
  · rw [if_pos q] at key
    have rf : RN (sI σ 28 9 0) t := h1.same (fun p _ _ => sI_place (by omega))
    obtain ⟨s1, e1, g1, g2, g3⟩ := v_addWire (N := N) rf i (by omega) a b c
    have hff : f_X3_forget N σ = some (sI σ 28 9 0) := rfl
    have i' : IN (t.addW a b c) := i.addW (by omega) (by omega) hx hy hc
    refine Or.inr ⟨q, s1, ?_, fun ν1 rq fr => ⟨g1, rq.same (fun k hk => sI_slot (by omega)) (fun p hp hq => sI_place (by omega)), i', fun j hj => ?_, ⟨mE, ?_, a2, a3, fun x y hxy hy hx' hy' => ?_⟩, 0, fun _ => ((0, 0, 0, 0), fun _ => 0), ?_, ?_, ?_, fun z => absurd (z.resolve_left id) (Nat.lt_irrefl 0), fun j hj => absurd hj (Nat.not_lt_zero j)⟩⟩
    · rw [key, hff, bP_s, e1, bS_s]
    · rw [g2 57 (by omega), sI_place (by omega), sI_place (by omega), fr.2.1 9 (by omega)]; exact h4 j hj
    · rw [g2 40 (by omega), sI_place (by omega)]; exact a1
    · rw [g3]
      show _ = ν1.2 10 _ ∧ _ = ν1.2 11 _
      rw [fr.1]; exact a4 x y hxy hy hx' hy'
    · rw [g2 28 (by omega)]; exact sI_same _ _ _ _
    · exact sI_same _ _ _ _
    · have := i'.few; omega
  · rw [if_neg q] at key
    exact Or.inl ⟨q, key⟩
theorem l_value_no (h : RT N σ ν mk t B) {e : Nat} (he : e < 7) (hno : t.ed.testBit e = false) (y : Int32) : f_L_value N σ (nI e) y = some (-7100, σ) := by
  have i := h.2.2.1
  unfold f_L_value f_X7_value
  rw [v_needEdge h.1 i, inS_n (by omega), hno]
  rfl
theorem l_value (h : RT N σ ν mk t B) {e : Nat} (heb : t.ed.testBit e = true) {y : Int32} (h1 : -99 ≤ y.toInt) (h2 : y.toInt ≤ 99) : f_L_value N σ (nI e) y = some (0, sI σ 57 e y) ∧ RT N (sI σ 57 e y) (sI ν 9 e y) mk t B := by
  obtain ⟨g1, g2, i, g4, ⟨mE, a1, a2, a3, a4⟩, m, sn, k1, k2, k3, k4, k5⟩ := id h
  have he := bit7 i.ed7 heb
  have m99 : (-99 : Int32).toInt = -99 := by decide
  have p99 : (99 : Int32).toInt = 99 := by decide
  refine ⟨?_, g1.same (fun p _ _ => sI_place (by omega)), g2.same (fun k _ => by rw [sI_place (by omega)]) (fun p _ _ => sI_place (by omega)), i, fun j hj => ?_, ⟨mE, ?_, a2, a3, fun x z q1 q2 q3 q4 => a4 x z q1 q2 q3 q4⟩, m, sn, ?_, ?_, k3, fun z => (k4 z).same (fun p _ _ => sI_place (by omega)), fun j hj => ?_⟩
  · have hs : f_X7_setValue N σ (nI e) y = some (sI σ 57 e y) := by
      unfold f_X7_setValue
      simp (disch := omega) only [lt0, if_false, lq7, nI_leI, if_neg, aI_n]
    unfold f_L_value f_X7_value
    rw [v_needEdge g1 i, inS_n (by omega), heb]
    simp only [if_true, bX, jn_e]
    rw [if_neg (show ¬ y < -99 by rw [Int32.lt_iff_toInt_lt, m99]; omega), if_pos (show y ≤ 99 by rw [Int32.le_iff_toInt_le, p99]; omega), hs, bP_s]
    rfl
  · obtain ⟨v1, v2, v3⟩ := g4 j hj
    by_cases q : j = e
    · subst q
      rw [sI_same, sI_same]
      exact ⟨rfl, ⟨h1, h2⟩, fun z => by rw [heb] at z; exact absurd z (by decide)⟩
    · rw [sI_slot q, sI_slot q]; exact ⟨v1, v2, v3⟩
  · rw [sI_place (by omega)]; exact a1
  · rw [sI_place (by omega)]; exact k1
  · rw [sI_place (by omega)]; exact k2
  · obtain ⟨b1, b2, b3, ⟨kk, ww, b4, b4'⟩, b5⟩ := k5 j hj
    refine ⟨b1, b2, ?_, ⟨kk, ww, ?_, b4'⟩, ?_⟩
    · simp (disch := omega) only [sI_place]; exact b3
    · rw [sI_place (by omega)]; exact b4
    · unfold KStp at *
      simp (disch := omega) only [sI_place]; exact b5
end steps
