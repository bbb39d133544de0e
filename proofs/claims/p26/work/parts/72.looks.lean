/-! THE CALLS THAT ONLY LOOK: class and reference answer alike. -/
section looks
variable {N : Nat} {σ τ : Wd} {t : Nt}
theorem v_needNode (r : RN σ t) (i : IN t) (x : Int32) : f_X7_needNode N σ x = some (if inS t.nd x then .inr () else .inl 1, σ) := by
  unfold f_X7_needNode
  rw [v_hasNode r i, bP_s, if_bI0]
  cases inS t.nd x <;> rfl
theorem v_needEdge (r : RN σ t) (i : IN t) (x : Int32) : f_X7_needEdge N σ x = some (if inS t.ed x then .inr () else .inl 1, σ) := by
  unfold f_X7_needEdge
  rw [v_hasEdge r i, bP_s, if_bI0]
  cases inS t.ed x <;> rfl
theorem v_needWire (r : RN σ t) (i : IN t) (x : Int32) : f_X7_needWire N σ x = some (if inS t.wr x then .inr () else .inl 1, σ) := by
  unfold f_X7_needWire
  rw [v_hasWire r i, bP_s, if_bI0]
  cases inS t.wr x <;> rfl
theorem pc_mono {A B : Nat} (h : ∀ i, A.testBit i = true → B.testBit i = true) : pc A ≤ pc B := fb_ct_sub (fun k _ hk => h k hk)
theorem two_in {a b : Nat} {S : Nat} (ha : S.testBit a = true) (hb : S.testBit b = true) : ∀ i, (2 ^ a ||| 2 ^ b).testBit i = true → S.testBit i = true := fun i hi => by
  rcases two_bit.mp hi with rfl | rfl <;> assumption
theorem mn_in {A B : Nat} : ∀ i, (mn A B).testBit i = true → A.testBit i = true := fun i hi => by
  rw [mn_bit, Bool.and_eq_true] at hi; exact hi.1
theorem v_count (r : RN σ t) (i : IN t) (hN : 100 ≤ N) {R : Nat} (hR : R < 128) (hRn : pc R ≤ pc t.nd) : ∃ σ', f_X0_count N σ (nI R) = some (lN (cntC t R 0 0), σ') ∧ FrC σ σ' := by
  obtain ⟨s, e, f⟩ := v_countWith (N := N) r i hN hR hRn (a := 0) (b := 0) (by omega) (by omega)
  refine ⟨s, ?_, f⟩
  unfold f_X0_count
  rw [lq0, e, bS_s]
theorem v_countRest (r : RN σ t) (i : IN t) (hN : 100 ≤ N) : ∃ σ', f_X7_countRest N σ = some (lN (cntC t t.ed 0 0), σ') ∧ FrC σ σ' := by
  obtain ⟨s, e, f⟩ := v_count (N := N) r i hN i.ed7 (pc_mono i.edn)
  refine ⟨s, ?_, f⟩
  unfold f_X7_countRest
  simp only [gI, r.ed]
  rw [e, bS_s]
theorem v_upperOfAnswer (r : RN σ t) (i : IN t) (hN : 100 ≤ N) {a b : Nat} (ha : a < 7) (hb : b < 7) : ∃ σ', f_X7_upperOfAnswer N σ (nI a) (nI b) = some (lN (cntC t (mn t.ed (2 ^ a)) a b), σ') ∧ FrC σ σ' := by
  have h7 := i.ed7
  obtain ⟨s, e, f⟩ := v_countWith (N := N) r i hN (R := mn t.ed (2 ^ a)) (Nat.lt_of_le_of_lt (mn_le _ _) i.ed7) (pc_mono (fun k hk => i.edn k (mn_in k hk))) ha hb
  refine ⟨s, ?_, f⟩
  unfold f_X7_upperOfAnswer
  simp (disch := omega) only [gI, r.ed, v_setOf, bP_s, mn_c]
  rw [e, bS_s]
/-- the count of the trees -/
theorem cnt_one {t : Nt} {l x : Nat} (h : l < 7) : cntC t (2 ^ l) x x = cntC t 1 0 0 := by
  unfold cntC
  refine sumW_congr 20 _ _ (fun is _ _ => iC_congr ?_)
  have h1 := pc_one ⟨l, h⟩
  have h2 := pc_one ⟨0, by omega⟩
  simp only at h1 h2
  rw [h1, show pc 1 = 1 from h2]
  have p : PD (is.map t.g) (rts 1) := PD_one (a := 0)
  exact ⟨fun q => ⟨q.1, q.2.1, p, Cn.rfl'⟩, fun q => ⟨q.1, q.2.1, PD_one, Cn.rfl'⟩⟩
theorem v_countTrees (r : RN σ t) (i : IN t) (hN : 100 ≤ N) : ∃ σ', f_X7_countTrees N σ = some (lN (cntC t 1 0 0), σ') ∧ FrC σ σ' := by
  unfold f_X7_countTrees
  rw [v_lowestNode r i hN, bP_s]
  obtain ⟨-, h2, h3, h4⟩ := low_spec t.nd 7 0
  by_cases h : low t.nd 7 0 < 7
  · have hb := h4 (by omega)
    obtain ⟨s, e, f⟩ := v_count (N := N) r i hN (R := 2 ^ low t.nd 7 0) (Nat.pow_lt_pow_right (by decide) h) (pc_mono (fun k hk => by
      rw [Nat.testBit_two_pow, decide_eq_true_eq] at hk; rw [← hk]; exact hb))
    refine ⟨s, ?_, f⟩
    unfold oI
    rw [if_pos h]
    simp (disch := omega) only [nI_m1, if_false, v_setOf, bP_s]
    rw [e, bS_s, cnt_one h]
  · refine ⟨σ, ?_, FrC.rfl' σ⟩
    unfold oI
    rw [if_neg h, if_pos rfl]
    have hz : pc t.nd = 0 := by
      rw [pc_upto (n := 7) i.nd7 (by omega)]
      exact fb_ct_zero.mpr (fun k hk => h3 k (by omega) (by omega))
    have : cntC t 1 0 0 = 0 := by
      unfold cntC
      have h1 := pc_one ⟨0, by omega⟩
      simp only at h1
      rw [sumW_congr 20 _ (fun _ => 0) (fun is _ _ => iC_neg (fun q => by
        have := q.1
        rw [hz, show pc 1 = 1 from h1] at this
        omega))]
      exact sumW_zero 20
    rw [this]; rfl
theorem thr_0 (τ : Wd) (v : Int32) : (sI τ 0 0 v).1 0 0 = v := sI_same _ _ _ _
theorem lN_lZ (n : Nat) : lN n = lZ (n : Int) := rfl
end looks
