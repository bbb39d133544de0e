/-! THE CALLS THAT ONLY LOOK: class and reference answer alike. -/
section looks
variable {N : Nat} {σ τ : Wd} {t : Nt}
theorem v_isNode8 (r : RM τ t) (i : IN t) (x : Int32) : f_X8_isNode N τ x = some (bI (inS t.nd x)) := by
  have h7 := i.nd7
  unfold f_X8_isNode f_X8_in
  rcases pk_ix x (n := 7) (by omega) with q | q | ⟨j, hj, rfl⟩
  · rw [if_pos q, inS_neg q]; rfl
  · rw [inS_big (n := 7) (S := t.nd) (by omega) (by omega) q]
    by_cases h0 : x < 0
    · rw [if_pos h0]; rfl
    · obtain ⟨j, hj, rfl⟩ := nI_of h0
      have := (nI_leI (by omega) hj).mp q
      rw [if_neg h0, lq6, if_pos (nI_lt (by omega) hj)]; rfl
  · rw [inS_n (by omega)]
    simp (disch := omega) only [lt0, if_false, lq6, nI_ltI, if_neg, bP_s, gI, r.nd, v_isIn8]
    cases t.nd.testBit j <;> rfl
theorem v_isEdge8 (r : RM τ t) (i : IN t) (x : Int32) : f_X8_isEdge N τ x = some (bI (inS t.ed x)) := by
  have h7 := i.nd7
  have h7' := i.ed7
  unfold f_X8_isEdge
  rw [v_isNode8 r i, bP_s, if_bI0]
  cases hx : inS t.nd x
  · have : inS t.ed x = false := by
      cases hy : inS t.ed x
      · rfl
      · obtain ⟨j, hj, rfl, hb⟩ := inS_elim (n := 7) (by omega) (by omega) hy
        rw [inS_n (by omega), i.edn j hb] at hx
        exact absurd hx (by decide)
    rw [this]; rfl
  · obtain ⟨j, hj, rfl, hb⟩ := inS_elim (n := 7) (by omega) (by omega) hx
    simp (disch := omega) only [gI, r.ed, v_isIn8, bP_s, if_true, inS_n]
    rw [if_bI0, bI_if]
theorem v_isWire8 (r : RM τ t) (i : IN t) (x : Int32) : f_X8_isWire N τ x = some (bI (inS t.wr x)) := by
  have h7 := i.wr20
  unfold f_X8_isWire f_X8_in
  rcases pk_ix x (n := 20) (by omega) with q | q | ⟨j, hj, rfl⟩
  · rw [if_pos q, inS_neg q]; rfl
  · rw [inS_big (n := 20) (S := t.wr) (by omega) (by omega) q]
    by_cases h0 : x < 0
    · rw [if_pos h0]; rfl
    · obtain ⟨j, hj, rfl⟩ := nI_of h0
      have := (nI_leI (by omega) hj).mp q
      rw [if_neg h0, show (19 : Int32) = nI 19 from rfl, if_pos (nI_lt (by omega) hj)]; rfl
  · rw [inS_n (by omega)]
    simp (disch := omega) only [lt0, if_false, show (19 : Int32) = nI 19 from rfl, nI_ltI, if_neg, bP_s, gI, r.wr, v_isIn8]
    cases t.wr.testBit j <;> rfl
theorem v_needNode (r : RN σ t) (i : IN t) (x : Int32) : f_X7_needNode N σ x = some (if inS t.nd x then .inr () else .inl 1, σ) := by
  unfold f_X7_needNode
  rw [v_hasNode r i, bP_s, if_bI0]
  cases inS t.nd x <;> rfl
theorem v_needEdge (r : RN σ t) (i : IN t) (x : Int32) : f_X7_needEdge N σ x = some (if inS t.ed x then .inr () else .inl 1, σ) := by
  unfold f_X7_needEdge
  rw [v_hasEdge r i, bP_s, if_bI0]
  cases inS t.ed x <;> rfl
theorem v_needWire (r : RN σ t) (i : IN t) (x : Int32) : f_X7_needWire N σ x = some (if inS t.wr x then .inr () else .inl 1, σ) := by
  unfold f_X7_needWire
  rw [v_hasWire r i, bP_s, if_bI0]
  cases inS t.wr x <;> rfl
theorem pc_mono {A B : Nat} (h : ∀ i, A.testBit i = true → B.testBit i = true) : pc A ≤ pc B := fb_ct_sub (fun k _ hk => h k hk)
theorem two_in {a b : Nat} {S : Nat} (ha : S.testBit a = true) (hb : S.testBit b = true) : ∀ i, (2 ^ a ||| 2 ^ b).testBit i = true → S.testBit i = true := fun i hi => by
  rcases two_bit.mp hi with rfl | rfl <;> assumption
theorem mn_in {A B : Nat} : ∀ i, (mn A B).testBit i = true → A.testBit i = true := fun i hi => by
  rw [mn_bit, Bool.and_eq_true] at hi; exact hi.1
theorem v_count (r : RN σ t) (i : IN t) (hN : 100 ≤ N) {R : Nat} (hR : R < 128) (hRn : pc R ≤ pc t.nd) : ∃ σ', f_X0_count N σ (nI R) = some (lN (cntC t R 0 0), σ') ∧ FrC σ σ' := by
  obtain ⟨s, e, f⟩ := v_countWith (N := N) r i hN hR hRn (a := 0) (b := 0) (by omega) (by omega)
  refine ⟨s, ?_, f⟩
  unfold f_X0_count
  rw [lq0, e, bS_s]
theorem v_countRest (r : RN σ t) (i : IN t) (hN : 100 ≤ N) : ∃ σ', f_X7_countRest N σ = some (lN (cntC t t.ed 0 0), σ') ∧ FrC σ σ' := by
  obtain ⟨s, e, f⟩ := v_count (N := N) r i hN i.ed7 (pc_mono i.edn)
  refine ⟨s, ?_, f⟩
  unfold f_X7_countRest
  simp only [gI, r.ed]
  rw [e, bS_s]
theorem v_upperOfAnswer (r : RN σ t) (i : IN t) (hN : 100 ≤ N) {a b : Nat} (ha : a < 7) (hb : b < 7) : ∃ σ', f_X7_upperOfAnswer N σ (nI a) (nI b) = some (lN (cntC t (mn t.ed (2 ^ a)) a b), σ') ∧ FrC σ σ' := by
  have h7 := i.ed7
  obtain ⟨s, e, f⟩ := v_countWith (N := N) r i hN (R := mn t.ed (2 ^ a)) (Nat.lt_of_le_of_lt (mn_le _ _) i.ed7) (pc_mono (fun k hk => i.edn k (mn_in k hk))) ha hb
  refine ⟨s, ?_, f⟩
  unfold f_X7_upperOfAnswer
  simp (disch := omega) only [gI, r.ed, v_setOf, bP_s, mn_c]
  rw [e, bS_s]
/-- the count of the trees -/
theorem cnt_one {t : Nt} {l x : Nat} (h : l < 7) : cntC t (2 ^ l) x x = cntC t 1 0 0 := by
  unfold cntC
  refine sumW_congr 20 _ _ (fun is _ _ => iC_congr ?_)
  have h1 := pc_one ⟨l, h⟩
  have h2 := pc_one ⟨0, by omega⟩
  simp only at h1 h2
  rw [h1, show pc 1 = 1 from h2]
  have p : PD (is.map t.g) (rts 1) := PD_one (a := 0)
  exact ⟨fun q => ⟨q.1, q.2.1, p, Cn.rfl'⟩, fun q => ⟨q.1, q.2.1, PD_one, Cn.rfl'⟩⟩
theorem v_countTrees (r : RN σ t) (i : IN t) (hN : 100 ≤ N) : ∃ σ', f_X7_countTrees N σ = some (lN (cntC t 1 0 0), σ') ∧ FrC σ σ' := by
  unfold f_X7_countTrees
  rw [v_lowestNode r i hN, bP_s]
  obtain ⟨-, h2, h3, h4⟩ := low_spec t.nd 7 0
  by_cases h : low t.nd 7 0 < 7
  · have hb := h4 (by omega)
    obtain ⟨s, e, f⟩ := v_count (N := N) r i hN (R := 2 ^ low t.nd 7 0) (Nat.pow_lt_pow_right (by decide) h) (pc_mono (fun k hk => by
      rw [Nat.testBit_two_pow, decide_eq_true_eq] at hk; rw [← hk]; exact hb))
    refine ⟨s, ?_, f⟩
    unfold oI
    rw [if_pos h]
    simp (disch := omega) only [nI_m1, if_false, v_setOf, bP_s]
    rw [e, bS_s, cnt_one h]
  · refine ⟨σ, ?_, FrC.rfl' σ⟩
    unfold oI
    rw [if_neg h, if_pos rfl]
    have hz : pc t.nd = 0 := by
      rw [pc_upto (n := 7) i.nd7 (by omega)]
      exact fb_ct_zero.mpr (fun k hk => h3 k (by omega) (by omega))
    have : cntC t 1 0 0 = 0 := by
      unfold cntC
      have h1 := pc_one ⟨0, by omega⟩
      simp only at h1
      rw [sumW_congr 20 _ (fun _ => 0) (fun is _ _ => iC_neg (fun q => by
        have := q.1
        rw [hz, show pc 1 = 1 from h1] at this
        omega))]
      exact sumW_zero 20
    rw [this]; rfl
/-- the reference's counts, as its calls ask them -/
theorem m_rest (r : RM τ t) (i : IN t) (hN : 5000 ≤ N) : ∃ τ', f_X8_counts N τ 1 0 0 0 = some (lN (cntC t t.ed 0 0), τ') ∧ FrM τ τ' :=
  v_counts i hN (w := 1) (a := 0) (b := 0) (c := 0) (Or.inr (Or.inl ⟨rfl, rfl, rfl⟩)) r
theorem m_trees (r : RM τ t) (i : IN t) (hN : 5000 ≤ N) : ∃ τ', f_X8_counts N τ 0 0 0 0 = some (lN (cntC t 1 0 0), τ') ∧ FrM τ τ' :=
  v_counts i hN (w := 0) (a := 0) (b := 0) (c := 0) (Or.inl ⟨rfl, ⟨0, by omega, rfl⟩, rfl⟩) r
theorem m_pair (r : RM τ t) (i : IN t) (hN : 5000 ≤ N) {a b : Nat} (ha : t.ed.testBit a = true) (hb : b < 7) : ∃ τ', f_X8_counts N τ 2 (nI a) (nI b) 0 = some (lN (cntC t (mn t.ed (2 ^ a)) a b), τ') ∧ FrM τ τ' :=
  v_counts i hN (w := 2) (a := a) (b := b) (c := 0) (Or.inr (Or.inr (Or.inl ⟨rfl, rfl, rfl, rfl, ha, hb⟩))) r
theorem m_with (r : RM τ t) (i : IN t) (hN : 5000 ≤ N) {a b : Nat} (ha : a < 7) (hb : b < 7) : ∃ τ', f_X8_counts N τ 3 (nI a) (nI b) 0 = some (lN (cntC t t.ed a b), τ') ∧ FrM τ τ' :=
  v_counts i hN (w := 3) (a := a) (b := b) (c := 0) (Or.inr (Or.inr (Or.inr (Or.inl ⟨rfl, rfl, rfl, rfl, ha, hb⟩)))) r
theorem m_apart (r : RM τ t) (i : IN t) (hN : 5000 ≤ N) {a b : Nat} (ha : a < 7) (hb : b < 7) (hab : a ≠ b) : ∃ τ', f_X8_counts N τ 4 (nI a) (nI b) 0 = some (lN (cntC t (2 ^ a ||| 2 ^ b) 0 0), τ') ∧ FrM τ τ' :=
  v_counts i hN (w := 4) (a := a) (b := b) (c := 0) (Or.inr (Or.inr (Or.inr (Or.inr (Or.inl ⟨rfl, rfl, rfl, ha, hb, hab⟩))))) r
theorem m_apartw (r : RM τ t) (i : IN t) (hN : 5000 ≤ N) {a b c : Nat} (ha : a < 7) (hb : b < 7) (hab : a ≠ b) (hc : c < 7) : ∃ τ', f_X8_counts N τ 5 (nI a) (nI b) (nI c) = some (lN (cntC t (2 ^ a ||| 2 ^ b) c a), τ') ∧ FrM τ τ' :=
  v_counts i hN (w := 5) (a := a) (b := b) (c := c) (Or.inr (Or.inr (Or.inr (Or.inr (Or.inr ⟨rfl, rfl, rfl, rfl, ha, hb, hab, hc⟩))))) r
/-- what is asked of a call that throws, and of one that doesn't -/
def SimX {α : Type} (m : Nat → Nat) (f : Option ((Nat ⊕ α) × Wd)) (g : Option (α × Wd)) : Prop := ∃ σ' τ', RR σ' τ' ∧ ((∃ q w, (q = 1 ∨ q = 2 ∨ q = 3) ∧ f = some (.inl q, σ') ∧ g = some (w, τ') ∧ τ'.1 0 0 = nI (m q)) ∨ (∃ v, f = some (.inr v, σ') ∧ g = some (v, τ') ∧ τ'.1 0 0 = nI 0))
def Sim {α : Type} (f : Option (α × Wd)) (g : Option (α × Wd)) : Prop := ∃ v σ' τ', f = some (v, σ') ∧ g = some (v, τ') ∧ RR σ' τ'
theorem thr_0 (τ : Wd) (v : Int32) : (sI τ 0 0 v).1 0 0 = v := sI_same _ _ _ _
theorem sim_trees (h : RT σ τ t) (hN : 5000 ≤ N) : Sim (f_X7_trees N σ) (f_X8_trees N τ) := by
  obtain ⟨s1, e1, f1⟩ := v_countTrees (N := N) h.1 h.2.2.1 (by omega)
  obtain ⟨s2, e2, f2⟩ := m_trees (N := N) ((EqM.thr τ 0).RM h.2.1) h.2.2.1 hN
  refine ⟨lN (cntC t 1 0 0), s1, s2, ?_, ?_, t, h.eq f1.eq ((EqM.thr τ 0).trans f2.eq)⟩
  · unfold f_X7_trees; rw [e1, bS_s]
  · simp only [f_X8_trees, wI]; rw [e2, bS_s]
theorem sim_rest (h : RT σ τ t) (hN : 5000 ≤ N) : Sim (f_X7_rest N σ) (f_X8_rest N τ) := by
  obtain ⟨s1, e1, f1⟩ := v_countRest (N := N) h.1 h.2.2.1 (by omega)
  obtain ⟨s2, e2, f2⟩ := m_rest (N := N) ((EqM.thr τ 0).RM h.2.1) h.2.2.1 hN
  refine ⟨lN (cntC t t.ed 0 0), s1, s2, ?_, ?_, t, h.eq f1.eq ((EqM.thr τ 0).trans f2.eq)⟩
  · unfold f_X7_rest; rw [e1, bS_s]
  · simp only [f_X8_rest, wI]; rw [e2, bS_s]
theorem lN_lZ (n : Nat) : lN n = lZ (n : Int) := rfl
theorem sim_answer (h : RT σ τ t) (hN : 5000 ≤ N) (x y b : Int32) : SimX id (f_X7_answer N σ x y b) (f_X8_answer N τ x y b) := by
  have i := h.2.2.1
  have h7 := i.ed7
  unfold f_X7_answer f_X8_answer
  rw [v_needEdge h.1 i, v_isEdge8 h.2.1 i, v_isEdge8 h.2.1 i]
  simp only [bP_s, jn_e, wI, gI, thr_0, if_bI0]
  cases hx : inS t.ed x
  · exact ⟨σ, sI τ 0 0 1, ⟨t, h.eq (EqC.rfl' σ) (EqM.thr τ 1)⟩, Or.inl ⟨1, 0, Or.inl rfl, rfl, rfl, thr_0 _ _⟩⟩
  · simp only [if_true, bX]
    rw [v_needEdge h.1 i]
    cases hy : inS t.ed y
    · exact ⟨σ, sI τ 0 0 1, ⟨t, h.eq (EqC.rfl' σ) (EqM.thr τ 1)⟩, Or.inl ⟨1, 0, Or.inl rfl, rfl, rfl, thr_0 _ _⟩⟩
    · simp only [if_true]
      by_cases e : x = y
      · rw [if_pos e, if_pos e]
        exact ⟨σ, sI τ 0 0 2, ⟨t, h.eq (EqC.rfl' σ) (EqM.thr τ 2)⟩, Or.inl ⟨2, 0, Or.inr (Or.inl rfl), rfl, rfl, thr_0 _ _⟩⟩
      · rw [if_neg e, if_neg e]
        obtain ⟨a, ha, rfl, hab⟩ := inS_elim (n := 7) h7 (by omega) hx
        obtain ⟨c, hc, rfl, hcb⟩ := inS_elim (n := 7) h7 (by omega) hy
        obtain ⟨s1, e1, f1⟩ := v_upperOfAnswer (N := N) h.1 i (by omega) ha hc
        obtain ⟨s2, e2, f2⟩ := v_countRest (N := N) (f1.RN h.1) i (by omega)
        obtain ⟨u1, g1, k1⟩ := m_pair (N := N) ((EqM.thr τ 0).RM h.2.1) i hN hab hc
        obtain ⟨u2, g2, k2⟩ := m_rest (N := N) (k1.RM ((EqM.thr τ 0).RM h.2.1)) i hN
        have b1 := cnt_lt i (mn t.ed (2 ^ a)) a c
        have b2 := cnt_lt i t.ed 0 0
        refine ⟨s2, u2, ⟨t, h.eq (f1.eq.trans f2.eq) ((EqM.thr τ 0).trans (k1.eq.trans k2.eq))⟩, Or.inr ⟨prt (cntC t (mn t.ed (2 ^ a)) a c : Nat) (cntC t t.ed 0 0) b, ?_, ?_, ?_⟩⟩
        · rw [e1, bS_s, e2, bS_s, lN_lZ (cntC t (mn t.ed (2 ^ a)) a c), v_partOf (by omega) (by omega) (by omega) (by omega), bP_s]
        · rw [if_pos (by decide), g1, bS_s, g2, bS_s, lN_lZ (cntC t (mn t.ed (2 ^ a)) a c), v_part (by omega) (by omega) (by omega) (by omega), bP_s]
        · rw [k2.2 0 (by omega) (by omega), k1.2 0 (by omega) (by omega)]; exact thr_0 _ _
end looks
