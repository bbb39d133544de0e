/-! THE CLASS'S ANSWERS, by themselves. -/
/-- a road in a forest of two roots leads to one of them alone -/
theorem cnt_xx {t : Nt} (R x : Nat) : cntC t R x x = cntC t R 0 0 := by
  unfold cntC
  refine sumW_congr 20 _ _ (fun is _ _ => iC_congr ?_)
  exact ⟨fun q => ⟨q.1, q.2.1, q.2.2.1, Cn.rfl'⟩, fun q => ⟨q.1, q.2.1, q.2.2.1, Cn.rfl'⟩⟩
theorem cnt_0 {t : Nt} {R x y : Nat} (hx : x < 7) (hy : y < 7) (hxR : R.testBit x = true) (hyR : R.testBit y = true) (hne : x ≠ y) : cntC t R x y = 0 := by
  refine Nat.eq_zero_of_not_pos (fun h => ?_)
  obtain ⟨is, -, -, -, -, h5, h6⟩ := cnt_pos_ex h
  exact hne (h5 x (mem_rts.mpr ⟨hx, hxR⟩) y (mem_rts.mpr ⟨hy, hyR⟩) h6)
section looks
variable {N : Nat} {σ : Wd} {t : Nt}
theorem x_wireIs_no (r : RN σ t) (i : IN t) {w : Nat} (hw : w < 20) (hno : t.wr.testBit w = false) (y : Int32) : f_L_wireIs N σ (nI w) y = some (-7100, σ) := by
  unfold f_L_wireIs f_X7_wireIs
  rw [v_needWire r i, inS_n (by omega), hno]
  rfl
theorem x_wireIs (r : RN σ t) (i : IN t) {w : Nat} (hb : t.wr.testBit w = true) : f_L_wireIs N σ (nI w) 0 = some (nI (t.f w), σ) ∧ f_L_wireIs N σ (nI w) 1 = some (nI (t.s w), σ) ∧ f_L_wireIs N σ (nI w) 2 = some (nI (t.c w), σ) := by
  have hw := bit20 i.wr20 hb
  have hwn := bit_lt i.wr hb
  have key : ∀ y : Int32, ¬ y < 0 → y ≤ 2 → f_L_wireIs N σ (nI w) y = if y = 0 then some (nI (t.f w), σ) else if y = 1 then some (nI (t.s w), σ) else some (nI (t.c w), σ) := fun y h1 h2 => by
    unfold f_L_wireIs f_X7_wireIs
    rw [v_needWire r i, inS_n (by omega), hb]
    simp only [if_true, bX, jn_e]
    rw [if_neg h1, if_pos h2]
    by_cases a1 : y = 0
    · rw [if_pos a1, if_pos a1, v_firstOf r hw, bP_s]; rfl
    · rw [if_neg a1, if_neg a1]
      by_cases a2 : y = 1
      · rw [if_pos a2, if_pos a2, v_secondOf r hw, bP_s]; rfl
      · rw [if_neg a2, if_neg a2, v_conductanceOf r hw hwn, bP_s]; rfl
  refine ⟨?_, ?_, ?_⟩
  · rw [key 0 (by decide) (by decide), if_pos rfl]
  · rw [key 1 (by decide) (by decide), if_neg (by decide), if_pos rfl]
  · rw [key 2 (by decide) (by decide), if_neg (by decide), if_neg (by decide)]
theorem x_answer_no (r : RN σ t) (i : IN t) {a c : Nat} (ha : a < 7) (hc : c < 7) (hno : (t.ed.testBit a && t.ed.testBit c) = false) (b : Int32) : f_L_answer N σ (nI a) (nI c) b = some (-9200000000000000001, σ) := by
  unfold f_L_answer f_X7_answer
  rw [v_needEdge r i, inS_n (by omega)]
  cases hx : t.ed.testBit a
  · rfl
  · rw [hx, Bool.true_and] at hno
    simp only [if_true, bX]
    rw [v_needEdge r i, inS_n (by omega), hno]
    rfl
theorem x_answer_eq (r : RN σ t) (i : IN t) {a : Nat} (ha : t.ed.testBit a = true) (b : Int32) : f_L_answer N σ (nI a) (nI a) b = some (-9200000000000000002, σ) := by
  have h7 := bit7 i.ed7 ha
  unfold f_L_answer f_X7_answer
  rw [v_needEdge r i, inS_n (by omega), ha]
  simp only [if_true, bX]
  rw [v_needEdge r i, inS_n (by omega), ha]
  rfl
theorem x_answer (r : RN σ t) (i : IN t) (hN : 200 ≤ N) {a c : Nat} (ha : t.ed.testBit a = true) (hc : t.ed.testBit c = true) (hac : a ≠ c) (b : Int32) : ∃ s, f_L_answer N σ (nI a) (nI c) b = some (prt (cntC t (mn t.ed (2 ^ a)) a c : Nat) (cntC t t.ed 0 0) b, s) ∧ EqC σ s := by
  have a7 := bit7 i.ed7 ha
  have c7 := bit7 i.ed7 hc
  obtain ⟨s1, e1, f1⟩ := v_upperOfAnswer (N := N) r i (by omega) a7 c7
  obtain ⟨s2, e2, f2⟩ := v_countRest (N := N) (f1.RN r) i (by omega)
  have b1 := cnt_lt i (mn t.ed (2 ^ a)) a c
  have b2 := cnt_lt i t.ed 0 0
  refine ⟨s2, ?_, f1.eq.trans f2.eq⟩
  unfold f_L_answer f_X7_answer
  rw [v_needEdge r i, inS_n (by omega), ha]
  simp only [if_true, bX]
  rw [v_needEdge r i, inS_n (by omega), hc]
  simp only [if_true]
  rw [if_neg (fun z => hac ((nI_eq (by omega) (by omega)).mp z)), e1, bS_s, e2, bS_s, lN_lZ (cntC t (mn t.ed (2 ^ a)) a c), v_partOf (by omega) (by omega) (by omega) (by omega), bP_s]
  rfl
theorem x_distance_no (r : RN σ t) (i : IN t) {a c : Nat} (ha : a < 7) (hc : c < 7) (hno : (t.nd.testBit a && t.nd.testBit c) = false) (b : Int32) : f_L_distance N σ (nI a) (nI c) b = some (-9200000000000000001, σ) := by
  unfold f_L_distance f_X7_distance
  rw [v_needNode r i, inS_n (by omega)]
  cases hx : t.nd.testBit a
  · rfl
  · rw [hx, Bool.true_and] at hno
    simp only [if_true, bX]
    rw [v_needNode r i, inS_n (by omega), hno]
    rfl
theorem x_distance (r : RN σ t) (i : IN t) (hN : 200 ≤ N) {a c : Nat} (ha : t.nd.testBit a = true) (hc : t.nd.testBit c = true) (b : Int32) : ∃ s, f_L_distance N σ (nI a) (nI c) b = some (prt ((if a = c then 0 else cntC t (2 ^ a ||| 2 ^ c) 0 0 : Nat) : Int) (if a = c then 1 else cntC t 1 0 0) b, s) ∧ EqC σ s := by
  have a7 := bit7 i.nd7 ha
  have c7 := bit7 i.nd7 hc
  have b2 := cnt_lt i 1 0 0
  have b1 := cnt_lt i (2 ^ a ||| 2 ^ c) 0 0
  have q : (nI a = nI c) ↔ a = c := nI_eq (by omega) (by omega)
  unfold f_L_distance f_X7_distance
  rw [v_needNode r i, inS_n (by omega), ha]
  simp only [if_true, bX]
  rw [v_needNode r i, inS_n (by omega), hc]
  simp only [if_true, q]
  by_cases e : a = c
  · rw [if_pos e, if_pos e, if_pos e]
    refine ⟨σ, ?_, EqC.rfl' σ⟩
    rw [show (0 : Int64) = lZ 0 from rfl, show (1 : Int64) = lN 1 from rfl, v_partOf (by omega) (by omega) (by omega) (by omega), bP_s]
    rfl
  · rw [if_neg e, if_neg e, if_neg e]
    obtain ⟨s1, e1, f1⟩ := v_count (N := N) r i (by omega) (two_lt a7 c7) (pc_mono (two_in ha hc))
    obtain ⟨s2, e2, f2⟩ := v_countTrees (N := N) (f1.RN r) i (by omega)
    refine ⟨s2, ?_, f1.eq.trans f2.eq⟩
    rw [v_setOf (by omega), bP_s, v_setOf (by omega), bP_s, fa_or, e1, bS_s, e2, bS_s, lN_lZ (cntC t (2 ^ a ||| 2 ^ c) 0 0), v_partOf (by omega) (by omega) (by omega) (by omega), bP_s]
    rfl
theorem x_chance_no (r : RN σ t) (i : IN t) {a c : Nat} (ha : a < 7) (hc : c < 7) (hno : (t.nd.testBit a && t.nd.testBit c) = false) (b : Int32) : f_L_chance N σ (nI a) (nI c) (nI c) b = some (-9200000000000000001, σ) := by
  unfold f_L_chance f_X7_chance
  rw [v_needNode r i, inS_n (by omega)]
  cases hx : t.nd.testBit a
  · rfl
  · rw [hx, Bool.true_and] at hno
    simp only [if_true, bX]
    rw [v_needNode r i, inS_n (by omega), hno]
    rfl
theorem x_chance (r : RN σ t) (i : IN t) (hN : 200 ≤ N) {d a c : Nat} (hd : t.nd.testBit d = true) (ha : t.nd.testBit a = true) (hc : t.nd.testBit c = true) (hac : a ≠ c) (b : Int32) : ∃ s, f_L_chance N σ (nI d) (nI a) (nI c) b = some (prt (cntC t (2 ^ a ||| 2 ^ c) d a : Nat) (cntC t (2 ^ a ||| 2 ^ c) 0 0) b, s) ∧ EqC σ s := by
  have d7 := bit7 i.nd7 hd
  have a7 := bit7 i.nd7 ha
  have c7 := bit7 i.nd7 hc
  obtain ⟨s1, e1, f1⟩ := v_countWith (N := N) r i (by omega) (two_lt a7 c7) (pc_mono (two_in ha hc)) d7 a7
  obtain ⟨s2, e2, f2⟩ := v_count (N := N) (f1.RN r) i (by omega) (two_lt a7 c7) (pc_mono (two_in ha hc))
  have b1 := cnt_lt i (2 ^ a ||| 2 ^ c) d a
  have b2 := cnt_lt i (2 ^ a ||| 2 ^ c) 0 0
  refine ⟨s2, ?_, f1.eq.trans f2.eq⟩
  unfold f_L_chance f_X7_chance
  rw [v_needNode r i, inS_n (by omega), hd]
  simp only [if_true, bX]
  rw [v_needNode r i, inS_n (by omega), ha]
  simp only [if_true]
  rw [v_needNode r i, inS_n (by omega), hc]
  simp only [if_true]
  rw [if_neg (fun z => hac ((nI_eq (by omega) (by omega)).mp z)), v_setOf (by omega), bP_s, v_setOf (by omega), bP_s]
  simp only [lI]
  rw [fa_or, e1, bS_s, e2, bS_s, lN_lZ (cntC t (2 ^ a ||| 2 ^ c) d a), v_partOf (by omega) (by omega) (by omega) (by omega), bP_s]
  rfl
/-- the values, as numbers -/
def vlO (σ : Wd) (j : Nat) : Int := if j < 7 then (σ.1 57 j).toInt else 0
theorem x_power (r : RN σ t) (i : IN t) (hN : 200 ≤ N) {v : Nat → Int} (hv : ∀ j, j < 7 → -99 ≤ v j ∧ v j ≤ 99) (hσ : ∀ j, j < 7 → (σ.1 57 j).toInt = v j) (b : Int32) : ∃ s, f_X7_power N σ b = some (prt (pow' t v) (cntC t t.ed 0 0) b, s) ∧ EqC σ s := by
  obtain ⟨s1, e1, f1⟩ := v_pow5 (N := N) (x := b) (K := fun v8 s9 => bS (f_X7_countRest N s9) fun v10 s11 => bP (f_X7_partOf N v8 v10 b) fun v12 => some (v12, s11)) i (by omega) 7 0 N σ (by omega) (by omega) r hσ
  obtain ⟨s2, e2, f2⟩ := v_countRest (N := N) (f1.RN r) i (by omega)
  obtain ⟨b1, b1'⟩ := pow_63 i hv
  have b2 := cnt_lt i t.ed 0 0
  refine ⟨s2, ?_, f1.eq.trans f2.eq⟩
  unfold f_X7_power
  refine Eq.trans e1 ?_
  rw [e2, bS_s, v_partOf (by omega) b1 b1' (by omega), bP_s]
theorem x_current_no (r : RN σ t) (i : IN t) {a : Nat} (ha : a < 7) (hno : t.ed.testBit a = false) (b : Int32) : f_L_current N σ (nI a) b = some (-9200000000000000001, σ) := by
  unfold f_L_current f_X7_current
  rw [v_needEdge r i, inS_n (by omega), hno]
  rfl
theorem x_current (r : RN σ t) (i : IN t) (hN : 200 ≤ N) {v : Nat → Int} (hv : ∀ j, j < 7 → -99 ≤ v j ∧ v j ≤ 99) (hσ : ∀ j, j < 7 → (σ.1 57 j).toInt = v j) {a : Nat} (ha : t.ed.testBit a = true) (b : Int32) : ∃ s, f_L_current N σ (nI a) b = some (prt (cur t v a) (cntC t t.ed 0 0) b, s) ∧ EqC σ s := by
  have a7 := bit7 i.ed7 ha
  obtain ⟨s1, e1, f1⟩ := v_upperOfCurrent (N := N) r i (by omega) a7 hσ
  obtain ⟨s2, e2, f2⟩ := v_countRest (N := N) (f1.RN r) i (by omega)
  obtain ⟨b1, b1'⟩ := cur_63 i hv ha
  have b2 := cnt_lt i t.ed 0 0
  refine ⟨s2, ?_, f1.eq.trans f2.eq⟩
  unfold f_L_current f_X7_current
  rw [v_needEdge r i, inS_n (by omega), ha]
  simp only [if_true, bX]
  rw [e1, bS_s, e2, bS_s, v_partOf (by omega) b1 b1' (by omega), bP_s]
  rfl
theorem x_potential_no (r : RN σ t) (i : IN t) {a : Nat} (ha : a < 7) (hno : t.nd.testBit a = false) (b : Int32) : f_L_potential N σ (nI a) b = some (-9200000000000000001, σ) := by
  unfold f_L_potential f_X7_potential
  rw [v_needNode r i, inS_n (by omega), hno]
  rfl
theorem x_potential_e (r : RN σ t) (i : IN t) (hN : 200 ≤ N) {a : Nat} (ha : t.ed.testBit a = true) (b : Int32) : f_L_potential N σ (nI a) b = some (prt (σ.1 57 a).toInt 1 b, σ) := by
  have a7 := bit7 i.ed7 ha
  have h1 := (σ.1 57 a).le_toInt
  have h2 := (σ.1 57 a).toInt_lt
  unfold f_L_potential f_X7_potential
  rw [v_needNode r i, inS_n (by omega), i.edn a ha]
  simp only [if_true, bX]
  rw [v_hasEdge r i, bP_s, if_bI0, inS_n (by omega), ha, if_pos rfl, v_valueOf a7, bP_s, show (1 : Int64) = lN 1 from rfl, v_partOf (by omega) (by omega) (by omega) (by omega), bP_s]
  rfl
theorem x_potential (r : RN σ t) (i : IN t) (hN : 200 ≤ N) {v : Nat → Int} (hv : ∀ j, j < 7 → -99 ≤ v j ∧ v j ≤ 99) (hσ : ∀ j, j < 7 → (σ.1 57 j).toInt = v j) {a : Nat} (ha : t.nd.testBit a = true) (hne : t.ed.testBit a = false) (b : Int32) : ∃ s, f_L_potential N σ (nI a) b = some (prt (pot t v a) (cntC t t.ed 0 0) b, s) ∧ EqC σ s := by
  have a7 := bit7 i.nd7 ha
  obtain ⟨s1, e1, f1⟩ := v_pot5 (N := N) (K := fun v9 s10 => some (v9, s10)) i (by omega) a7 7 0 N σ (by omega) (by omega) r hσ
  obtain ⟨s2, e2, f2⟩ := v_countRest (N := N) (f1.RN r) i (by omega)
  obtain ⟨b1, b1'⟩ := pot_63 i hv a
  have b2 := cnt_lt i t.ed 0 0
  refine ⟨s2, ?_, f1.eq.trans f2.eq⟩
  have e1' : f_X7_upperOfPotential N σ (nI a) = some (lZ (pot t v a), s1) := e1
  unfold f_L_potential f_X7_potential
  rw [v_needNode r i, inS_n (by omega), ha]
  simp only [if_true, bX]
  rw [v_hasEdge r i, bP_s, if_bI0, inS_n (by omega), hne, if_neg (by decide), e1', bS_s, e2, bS_s, v_partOf (by omega) b1 b1' (by omega), bP_s]
  rfl
theorem x_starred_no (r : RN σ t) (i : IN t) {a : Nat} (ha : a < 7) (hno : t.ed.testBit a = false) (b : Int32) : f_L_starred N σ (nI a) b = some (-9200000000000000001, σ) := by
  unfold f_L_starred f_X7_starred
  rw [v_needEdge r i, inS_n (by omega), hno]
  rfl
theorem x_starred_0 (r : RN σ t) (i : IN t) {e : Nat} (he : t.ed.testBit e = true) (h3 : pc t.ed ≠ 3) (b : Int32) : f_L_starred N σ (nI e) b = some (0, σ) := by
  have e7 := bit7 i.ed7 he
  have h7 := i.ed7
  have hp7 := pc_le7 h7
  unfold f_L_starred f_X7_starred
  rw [v_needEdge r i, inS_n (by omega), he]
  simp only [if_true, bX, gI]
  rw [r.ed, v_bitCount (by omega), bP_s, if_neg (show ¬ nI (pc t.ed) = 3 from fun q => h3 ((nI_eq (b := 3) (by omega) (by omega)).mp q))]
  rfl
theorem x_starred (r : RN σ t) (i : IN t) (hN : 200 ≤ N) {e : Nat} (he : t.ed.testBit e = true) (h3 : pc t.ed = 3) (b : Int32) : ∃ s, EqC σ s ∧
    (((∀ x, x < 7 → t.ed.testBit x = true → U t x ≠ 0) ∧ f_L_starred N σ (nI e) b = some (prt (cntC t 1 0 0 : Nat) (U t e) b, s)) ∨ ((∃ x, x < 7 ∧ t.ed.testBit x = true ∧ U t x = 0) ∧ f_L_starred N σ (nI e) b = some (0, s))) := by
  have e7 := bit7 i.ed7 he
  have h7 := i.ed7
  have l1 := U_lt i e
  have l5 := cnt_lt i 1 0 0
  have key : f_L_starred N σ (nI e) b = bH (fl_X7_starred_23 N (nI e) b (fun s9 => bS (f_X7_countTrees N s9) fun v10 s11 => bS (f_X7_upperOfOppositeAnswer N s11 (nI e)) fun v12 s13 => bP (f_X7_partOf N v10 v12 b) fun v14 => some (.inr v14, s13)) N 0 σ) (fun v1 s2 => some (v1, s2)) (fun q s3 => if q = 1 then some ((-9200000000000000001), s3) else none) := by
    unfold f_L_starred f_X7_starred
    rw [v_needEdge r i, inS_n (by omega), he]
    simp only [if_true, bX, gI]
    rw [r.ed, v_bitCount (by omega), bP_s, h3, if_pos (show nI 3 = 3 from rfl)]
  obtain ⟨s1, f1, hs⟩ := v_star23 (N := N) (x := nI e) (y := b) (K := fun s9 => bS (f_X7_countTrees N s9) fun v10 s11 => bS (f_X7_upperOfOppositeAnswer N s11 (nI e)) fun v12 s13 => bP (f_X7_partOf N v10 v12 b) fun v14 => some (.inr v14, s13)) i (by omega) 7 0 N σ (by omega) (by omega) r
  rcases hs with ⟨h1, h2⟩ | ⟨h1, h2⟩
  · obtain ⟨s2, e2, f2⟩ := v_countTrees (N := N) (f1.RN r) i (by omega)
    obtain ⟨s3, e3, f3⟩ := v_opposite (N := N) (f2.RN (f1.RN r)) i (by omega) e7
    refine ⟨s3, f1.eq.trans (f2.eq.trans f3.eq), Or.inl ⟨fun x hx hb => h1 x (Nat.zero_le _) hx hb, ?_⟩⟩
    have h2' : fl_X7_starred_23 N (nI e) b (fun s9 => bS (f_X7_countTrees N s9) fun v10 s11 => bS (f_X7_upperOfOppositeAnswer N s11 (nI e)) fun v12 s13 => bP (f_X7_partOf N v10 v12 b) fun v14 => some (.inr v14, s13)) N 0 σ = _ := h2
    rw [key, h2', e2, bS_s, e3, bS_s, lN_lZ (cntC t 1 0 0), v_partOf (by omega) (by omega) (by omega) (by omega), bP_s]
    rfl
  · refine ⟨s1, f1.eq, Or.inr ⟨h1, ?_⟩⟩
    have h2' : fl_X7_starred_23 N (nI e) b (fun s9 => bS (f_X7_countTrees N s9) fun v10 s11 => bS (f_X7_upperOfOppositeAnswer N s11 (nI e)) fun v12 s13 => bP (f_X7_partOf N v10 v12 b) fun v14 => some (.inr v14, s13)) N 0 σ = _ := h2
    rw [key, h2']
    rfl
end looks
