/-! TREES ANEW, the call. -/
section anew
variable {N : Nat} {σ τ : Wd} {t : Nt}
theorem v_countTreesAgain (r : RN σ t) (i : IN t) (hN : 100 ≤ N) : ∃ σ', f_X2_countTreesAgain N σ = some (lN (cntC t 1 0 0), σ') ∧ EqC σ σ' := by
  have hlow := v_lowestNode (N := N) r i hN
  obtain ⟨-, h2, h3, h4⟩ := low_spec t.nd 7 0
  by_cases h : low t.nd 7 0 < 7
  · have hl := h4 (by omega)
    have el : oI (low t.nd 7 0) 7 = nI (low t.nd 7 0) := if_pos h
    rw [el] at hlow
    rw [← cnt_one (t := t) (x := 0) h, ← anew_sum i hl]
    generalize low t.nd 7 0 = l at h hl hlow
    have hm := fb_ct_le (pR t l) 7
    obtain ⟨s1, e1, a1, -, a3, a4⟩ := v_nR4 (N := N) (K := fun v6 s7 => some (v6, s7)) i h 7 0 N σ (by omega) (by omega) r
    obtain ⟨s2, e2, b1, b2, b3⟩ := v_cR2 (N := N) (K := fun s4 => some s4) hN 7 0 N s1 (by omega) (by omega)
    have r2 : RN s2 t := r.same (fun p hp hp' => by rw [b3, a3 p (by omega)])
    obtain ⟨s3, e3, c1, c2, c3⟩ := v_again27 (N := N) (l := l) (x2 := nI (fb_ct (pR t l) 7)) (K := fun s9 => bP (f_X7_setOf N (nI (fb_ct (pR t l) 7))) fun v10 => bP (f_X2_expand N 10 s9 (nI (fb_ct (pR t l) 7)) 0 (v10 - 1)) fun v11 => some (v11, s9)) i 20 0 N s2 (by omega) (by omega) r2
      (fun j hj => by rw [b3]; exact a1 j (by omega) hj) (fun x y hx hy => b1 x y (by omega) hx hy)
    refine ⟨s3, ?_, fun p hp => ?_, ?_, fun p hp => ?_⟩
    · unfold f_X2_countTreesAgain
      have e1' : f_X2_numberRows N σ (nI l) = some (nI (fb_ct (pR t l) 7), s1) := e1
      have e2' : f_X2_clearRows N s1 = some s2 := e2
      rw [hlow, bP_s, if_neg (by rw [nI_m1 (by omega)]; exact fun z => z), e1', bS_s, e2', bP_s]
      refine Eq.trans e3 ?_
      have p7 : 2 ^ fb_ct (pR t l) 7 ≤ 2 ^ 7 := Nat.pow_le_pow_right (by decide) hm
      have p0 := Nat.two_pow_pos (fb_ct (pR t l) 7)
      rw [v_setOf (by omega), bP_s, lq1, pk_sub p0, lq0, v_expand hN hm c1 (fb_ct (pR t l) 7) 10 0 (2 ^ fb_ct (pR t l) 7 - 1) (by omega) (by omega) (by omega), bP_s]
      have hc := cL_all ⟨fb_ct (pR t l) 7, by omega⟩
      simp only at hc
      rw [hc, rwF_map, ← List.range_eq_range']
      have mt := matrix_tree (mem_rts.mpr ⟨h, hl⟩) (lsQ t 20) [] (labR t l) (List.range (fb_ct (pR t l) 7)) (fun e he => by
        rw [lsQ_dl] at he
        have : ∀ (g : Nat → Ed) m, e ∈ dl g m → ∃ j, j < m ∧ e = g j := by
          intro g m
          induction m with
          | zero => intro z; exact nomatch z
          | succ m ihm =>
            intro z
            rcases List.mem_cons.mp z with z | z
            · exact ⟨m, by omega, z⟩
            · obtain ⟨j, h1, h2⟩ := ihm z; exact ⟨j, by omega, h2⟩
        obtain ⟨j, hj, rfl⟩ := this _ _ he
        have hq := (mem_pick.mp (getD_mem hj)).2
        unfold Nt.Q at hq
        rw [Bool.and_eq_true] at hq
        have := i.wf _ hq.1
        exact ⟨mem_rts.mpr ⟨i.fb _, this.1⟩, mem_rts.mpr ⟨i.sb _, this.2⟩⟩) (lab_of i hl)
      unfold pd at mt
      rw [mt]; rfl
    · rw [c3, b3, a3 p (by omega)]
    · rw [c3, b3, a3 28 (by omega)]
    · rw [funext (fun j => c2 p j (by omega)), funext (fun j => b2 p j (by omega)), a4]
  · have eo : oI (low t.nd 7 0) 7 = -1 := if_neg h
    rw [eo] at hlow
    obtain ⟨s, e, -⟩ := v_countTrees (N := N) r i hN
    unfold f_X7_countTrees at e
    rw [hlow, bP_s, if_pos rfl] at e
    have e' : (0 : Int64) = lN (cntC t 1 0 0) := congrArg Prod.fst (Option.some.inj e)
    refine ⟨σ, ?_, EqC.rfl' σ⟩
    unfold f_X2_countTreesAgain
    rw [hlow, bP_s, if_pos rfl, ← e']
end anew
