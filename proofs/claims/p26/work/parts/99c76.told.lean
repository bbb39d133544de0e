/-! THE LAW'S LOOK is always satisfied. -/
section told2
variable {N : Nat} {γ ν : Wd} {t : Nt}
theorem t_Z (h : Lk γ ν t) (hN : 200 ≤ N) {a c : Nat} (ha : a < 7) (hc : c < 7) : ∃ s, tdZ N ν (nI a) (nI c) (lN (cntC t t.ed 0 0)) (lN (cntC t 1 0 0)) γ = some (1, s) ∧ EqC γ s := by
  obtain ⟨s1, e1, f1⟩ := l_values (N := N) h hN ha
  obtain ⟨s2, e2, f2⟩ := l_starred (N := N) (h.eq f1) hN hc
  refine ⟨s2, ?_, f1.trans f2⟩
  unfold tdZ
  rw [e1, bS_s, if_neg (by decide), e2, bS_s, if_neg (by decide)]
theorem mn_or {A B : Nat} (h : ∀ k, B.testBit k = true → A.testBit k = true) : mn A (mn A B) = B := by
  apply Nat.eq_of_testBit_eq
  intro k
  rw [mn_bit, mn_bit]
  have := h k
  cases hb : B.testBit k
  · simp
  · rw [this hb]; rfl
theorem pc_off {S a : Nat} (h : S < 128) (ha : S.testBit a = true) {R : Nat} (hR : R.testBit a = true) : pc (mn S R) ≤ 6 := by
  have h1 : pc (mn S R) ≤ pc (mn S (2 ^ a)) := pc_mono (fun k hk => by
    obtain ⟨b1, b2⟩ := mn_f hk
    refine mn_t b1 ?_
    rw [Nat.testBit_two_pow]
    refine decide_eq_false (fun z => ?_)
    rw [← z, hR] at b2; exact absurd b2 (by decide))
  have h2 := pc_mn h ha
  have h3 := pc_le7 h
  omega
theorem two_bitA {a c : Nat} : (2 ^ a ||| 2 ^ c).testBit a = true := by
  rw [Nat.testBit_or, Nat.testBit_two_pow]; simp
theorem two_bitC {a c : Nat} : (2 ^ a ||| 2 ^ c).testBit c = true := by
  rw [Nat.testBit_or, Nat.testBit_two_pow, Nat.testBit_two_pow]; simp
theorem v_apart (q : RQ ν t) (i : IN t) (hN : 200 ≤ N) {a c : Nat} (ha : t.nd.testBit a = true) (hc : t.nd.testBit c = true) : f_L_minor N ν (nI (mn t.nd (2 ^ a ||| 2 ^ c))) (-1) (-1) = some (lN (cntC t (2 ^ a ||| 2 ^ c) 0 0)) := by
  rw [v_minor0 q i hN (fun k hk => (mn_f hk).1) (pc_off i.nd7 ha two_bitA), mn_or (two_in ha hc)]
theorem v_with (q : RQ ν t) (i : IN t) (hN : 200 ≤ N) {a c d : Nat} (ha : t.nd.testBit a = true) (hc : t.nd.testBit c = true) (hd : t.nd.testBit d = true) (hda : d ≠ a) (hdc : d ≠ c) : f_L_minor N ν (nI (mn t.nd (2 ^ a ||| 2 ^ c))) (nI d) (nI a) = some (lN (cntC t (2 ^ a ||| 2 ^ c) d a)) := by
  have hb : (2 ^ a ||| 2 ^ c).testBit d = false := by
    rw [Nat.testBit_or, Nat.testBit_two_pow, Nat.testBit_two_pow, decide_eq_false (fun z => hda z.symm), decide_eq_false (fun z => hdc z.symm)]; rfl
  rw [v_minor1 q i hN (fun k hk => (mn_f hk).1) (pc_off i.nd7 ha two_bitA) (mn_t hd hb) ha (by rw [mn_bit, two_bitA]; simp), mn_or (two_in ha hc)]
theorem v_treesL (q : RQ ν t) (i : IN t) (hN : 200 ≤ N) (he : t.nd ≠ 0) : f_L_minor N ν (nI (t.nd &&& (t.nd - 1))) (-1) (-1) = some (lN (cntC t 1 0 0)) := by
  have h7 := i.nd7
  obtain ⟨l, b1, b2, -⟩ := low_off ⟨t.nd, h7⟩ he
  simp only at b1 b2
  have hs : ∀ k, (2 ^ l.val).testBit k = true → t.nd.testBit k = true := fun k hk => by
    rw [Nat.testBit_two_pow, decide_eq_true_iff] at hk
    rw [← hk]; exact b1
  rw [b2, v_minor0 q i hN (fun k hk => (mn_f hk).1) (pc_off h7 b1 (by rw [Nat.testBit_two_pow]; simp)), mn_or hs, cnt_one l.isLt]
theorem t_M (h : Lk γ ν t) (hN : 200 ≤ N) {a c d : Nat} (ha : a < 7) (hc : c < 7) (hd : d < 7) : ∃ s, tdM N ν (nI a) (nI c) (nI d) (lN (cntC t t.ed 0 0)) (lN (cntC t 1 0 0)) γ (bI (t.nd.testBit a && t.nd.testBit c)) = some (1, s) ∧ EqC γ s := by
  obtain ⟨r, q, i, he, -⟩ := id h
  have h7 := i.nd7
  have hT := cnt_lt i 1 0 0
  have hA := cnt_lt i (2 ^ a ||| 2 ^ c) 0 0
  have hC := cnt_lt i (2 ^ a ||| 2 ^ c) d a
  unfold tdM
  simp only [jn_p]
  rw [if_bI0]
  rcases Bool.eq_false_or_eq_true (t.nd.testBit a && t.nd.testBit c) with hb | hb
  · rw [if_pos hb]
    rw [Bool.and_eq_true] at hb
    obtain ⟨hna, hnc⟩ := hb
    rw [rg_1 q, c_shl (by omega), c_shl (by omega), fa_or, mn_c, v_apart q i hN hna hnc, bP_s]
    obtain ⟨s1, e1, f1⟩ := x_distance (N := N) r i hN hna hnc 0
    have h1 := h.eq f1
    obtain ⟨s2, e2, f2⟩ := x_distance (N := N) h1.1 i hN hna hnc 1
    have h2 := h1.eq f2
    have fr := f1.trans f2
    rw [e1, bS_s, e2, bS_s]
    have qac : (nI a = nI c) ↔ a = c := nI_eq (by omega) (by omega)
    have qda : (nI d = nI a) ↔ d = a := nI_eq (by omega) (by omega)
    have qdc : (nI d = nI c) ↔ d = c := nI_eq (by omega) (by omega)
    have hz : ∀ {s : Wd}, Lk s ν t → EqC γ s → ∃ s', tdZ N ν (nI a) (nI c) (lN (cntC t t.ed 0 0)) (lN (cntC t 1 0 0)) s = some (1, s') ∧ EqC γ s' := fun {s} hs g => by
      obtain ⟨s', e', f'⟩ := t_Z (N := N) hs hN ha hc
      exact ⟨s', e', g.trans f'⟩
    simp only [qac]
    by_cases e : a = c
    · have hy := is_yes (N := N) hN (u := 0) (l := 1) (by omega) (by omega) (by omega)
      simp only [if_pos e]
      have hy' : f_L_is N (prt ((0 : Nat) : Int) 1 0) (prt ((0 : Nat) : Int) 1 1) 0 1 = some 1 := hy
      rw [hy', bP_s, if_neg (by decide)]
      exact hz h2 fr
    · have hy := is_yes (N := N) hN (u := (cntC t (2 ^ a ||| 2 ^ c) 0 0 : Int)) (l := cntC t 1 0 0) (by omega) (by omega) (by omega)
      rw [← lN_lZ] at hy
      simp only [if_neg e]
      rw [hy, bP_s, if_neg (by decide), rg_1 q, c_in (by omega) (by omega), if_bI1]
      rcases Bool.eq_false_or_eq_true (t.nd.testBit d) with hnd | hnd
      · rw [if_pos hnd]
        obtain ⟨s3, e3, f3⟩ := x_chance (N := N) h2.1 i hN hnd hna hnc e 0
        have h3 := h2.eq f3
        obtain ⟨s4, e4, f4⟩ := x_chance (N := N) h3.1 i hN hnd hna hnc e 1
        have h4 := h3.eq f4
        have hy2 := is_yes (N := N) hN (u := (cntC t (2 ^ a ||| 2 ^ c) d a : Int)) (l := cntC t (2 ^ a ||| 2 ^ c) 0 0) (by omega) (by omega) (by omega)
        rw [← lN_lZ] at hy2
        have last : ∀ v55 : Int64, v55 = lN (cntC t (2 ^ a ||| 2 ^ c) d a) → ∃ s, (bS (f_L_chance N s2 (nI d) (nI a) (nI c) 0) fun v56 s57 => bS (f_L_chance N s57 (nI d) (nI a) (nI c) 1) fun v58 s59 => bP (f_L_is N v56 v58 v55 (lN (cntC t (2 ^ a ||| 2 ^ c) 0 0))) fun v60 => if v60 = 0 then (some ((0 : Int32), s59)) else (tdZ N ν (nI a) (nI c) (lN (cntC t t.ed 0 0)) (lN (cntC t 1 0 0)) s59)) = some (1, s) ∧ EqC γ s := fun v55 hv => by
          rw [e3, bS_s, e4, bS_s, hv, hy2, bP_s, if_neg (by decide)]
          exact hz h4 (fr.trans (f3.trans f4))
        simp only [qda, qdc]
        by_cases k1 : d = a
        · rw [if_pos k1]
          exact last _ (by rw [k1, cnt_xx _ a])
        · rw [if_neg k1]
          by_cases k2 : d = c
          · rw [if_pos k2]
            refine last _ ?_
            rw [k2, cnt_0 hc ha two_bitC two_bitA (fun z => e z.symm)]; rfl
          · rw [if_neg k2, rg_1 q, mn_c, v_with q i hN hna hnc hnd k1 k2, bP_s]
            exact last _ rfl
      · rw [if_neg (by rw [hnd]; decide)]
        exact hz h2 fr
  · rw [if_neg (by rw [hb]; decide)]
    rw [x_distance_no r i ha hc hb, bS_s, if_pos (by rw [lg_cmp_eq]), x_chance_no r i ha hc hb, bS_s, if_pos (by rw [lg_cmp_eq])]
    exact t_Z (N := N) h hN ha hc
theorem t_N (h : Lk γ ν t) (hN : 200 ≤ N) {a c d : Nat} (ha : a < 7) (hc : c < 7) (hd : d < 7) : ∃ s, tdN N ν (nI a) (nI c) (nI d) (lN (cntC t t.ed 0 0)) (lN (cntC t 1 0 0)) γ = some (1, s) ∧ EqC γ s := by
  obtain ⟨r, q, i, he, -⟩ := id h
  have h7 := i.nd7
  have hm := t_M (N := N) h hN ha hc hd
  unfold tdN
  simp only [jn_p]
  rw [rg_1 q, c_in (by omega) (by omega), if_bI1]
  rcases Bool.eq_false_or_eq_true (t.nd.testBit a) with ha' | ha'
  · rw [if_pos ha', rg_1 q, c_in (by omega) (by omega), if_bI1]
    rcases Bool.eq_false_or_eq_true (t.nd.testBit c) with hc' | hc'
    · rw [if_pos hc']
      rw [ha', hc'] at hm
      exact hm
    · rw [if_neg (by rw [hc']; decide)]
      rw [hc', Bool.and_false] at hm
      exact hm
  · rw [if_neg (by rw [ha']; decide)]
    rw [ha', Bool.false_and] at hm
    exact hm
theorem t_A (h : Lk γ ν t) (hN : 200 ≤ N) {a c d : Nat} (ha : a < 7) (hc : c < 7) (hd : d < 7) : ∃ s, tdA N ν (nI a) (nI c) (nI d) (lN (cntC t t.ed 0 0)) (lN (cntC t 1 0 0)) γ (bI (t.ed.testBit a && t.ed.testBit c)) = some (1, s) ∧ EqC γ s := by
  obtain ⟨r, q, i, he, -⟩ := id h
  have hR := cnt_lt i t.ed 0 0
  have hP := cnt_lt i (mn t.ed (2 ^ a)) a c
  have qac : (nI a = nI c) ↔ a = c := nI_eq (by omega) (by omega)
  unfold tdA
  simp only [jn_p, qac]
  rw [if_bI0]
  rcases Bool.eq_false_or_eq_true (t.ed.testBit a && t.ed.testBit c) with hb | hb
  · rw [if_pos hb]
    rw [Bool.and_eq_true] at hb
    by_cases e : a = c
    · rw [if_pos e, ← e, x_answer_eq r i hb.1, bS_s, if_pos (by rw [lg_cmp_eq])]
      exact t_N (N := N) h hN ha ha hd
    · obtain ⟨s1, e1, f1⟩ := x_answer (N := N) r i hN hb.1 hb.2 e 0
      have h1 := h.eq f1
      obtain ⟨s2, e2, f2⟩ := x_answer (N := N) h1.1 i hN hb.1 hb.2 e 1
      have h2 := h1.eq f2
      have hy := is_yes (N := N) hN (u := (cntC t (mn t.ed (2 ^ a)) a c : Int)) (l := cntC t t.ed 0 0) (by omega) (by omega) (by omega)
      rw [← lN_lZ] at hy
      rw [if_neg e, e1, bS_s, e2, bS_s, v_pair q i hN hb.1 hb.2 e, bP_s, hy, bP_s, if_neg (by decide)]
      obtain ⟨s', e', f'⟩ := t_N (N := N) h2 hN ha hc hd
      exact ⟨s', e', (f1.trans f2).trans f'⟩
  · rw [if_neg (by rw [hb]; decide), x_answer_no r i ha hc hb, bS_s, if_pos (by rw [lg_cmp_eq])]
    exact t_N (N := N) h hN ha hc hd
theorem t_E (h : Lk γ ν t) (hN : 200 ≤ N) (a1 : Int32) : ∃ s, tdE N ν a1 (lN (cntC t t.ed 0 0)) (lN (cntC t 1 0 0)) γ = some (1, s) ∧ EqC γ s := by
  obtain ⟨r, q, i, he, -⟩ := id h
  have h7 := i.ed7
  obtain ⟨a, ha, ea⟩ := v_low (N := N) (a1 >>> (2 &&& 31)) (n := 7) (by omega) (by omega)
  obtain ⟨c, hc, ec⟩ := v_low (N := N) (a1 >>> (6 &&& 31)) (n := 7) (by omega) (by omega)
  obtain ⟨d, hd, ed⟩ := v_low (N := N) (a1 >>> (10 &&& 31)) (n := 7) (by omega) (by omega)
  have hm := t_A (N := N) h hN ha hc hd
  unfold tdE
  rw [lq7, ea, bP_s, ec, bP_s, ed, bP_s]
  simp only [jn_p]
  rw [rg_1 q, rg_2 q, fa_and, nd_and i]
  rcases Bool.eq_false_or_eq_true (t.ed.testBit a) with ha' | ha'
  · rw [if_neg (fun z => by rw [(and_bit (by omega) (by omega)).mp z] at ha'; exact absurd ha' (by decide)), rg_1 q, rg_2 q, fa_and, nd_and i]
    rcases Bool.eq_false_or_eq_true (t.ed.testBit c) with hc' | hc'
    · rw [if_neg (fun z => by rw [(and_bit (by omega) (by omega)).mp z] at hc'; exact absurd hc' (by decide))]
      rw [ha', hc'] at hm
      exact hm
    · rw [if_pos ((and_bit (by omega) (by omega)).mpr hc')]
      rw [hc', Bool.and_false] at hm
      exact hm
  · rw [if_pos ((and_bit (by omega) (by omega)).mpr ha')]
    rw [ha', Bool.false_and] at hm
    exact hm
theorem t_W (h : Lk γ ν t) (hN : 200 ≤ N) (a1 : Int32) {w : Nat} (hw : w < 20) : ∃ s, tdW N ν a1 (nI w) (lN (cntC t t.ed 0 0)) (lN (cntC t 1 0 0)) γ (bI (t.wr.testBit w)) = some (1, s) ∧ EqC γ s := by
  obtain ⟨r, q, i, he, -⟩ := id h
  unfold tdW tdW0 tdW1 tdW2
  simp only [jn_p]
  rcases Bool.eq_false_or_eq_true (t.wr.testBit w) with hb | hb
  · have hwn := bit_lt i.wr hb
    obtain ⟨e1, e2, e3⟩ := x_wireIs (N := N) r i hb
    rw [hb]
    simp only [show ¬ bI true = 0 by decide, if_false]
    rw [e1, bS_s, rp_1 q i hwn, if_pos rfl, e2, bS_s, rp_2 q i hwn, if_pos rfl, e3, bS_s, rp_3 q i hwn, if_pos rfl]
    exact t_E (N := N) h hN a1
  · have e := x_wireIs_no (N := N) r i hw hb
    rw [hb]
    simp only [show bI false = 0 from rfl, if_true]
    rw [e, bS_s, if_pos rfl, e, bS_s, if_pos rfl, e, bS_s, if_pos rfl]
    exact t_E (N := N) h hN a1
theorem l_told (h : Lk γ ν t) (hN : 200 ≤ N) (a1 : Int32) : ∃ s, f_L_isTold N γ ν a1 = some (1, s) ∧ EqC γ s := by
  obtain ⟨r, q, i, he, -⟩ := id h
  have h7 := i.nd7
  have h20 := i.wr20
  have hnd : t.nd ≠ 0 := fun z => he (Nat.eq_of_testBit_eq (fun k => by
    rw [Nat.zero_testBit]
    cases hb : t.ed.testBit k
    · rfl
    · have := i.edn k hb
      rw [z, Nat.zero_testBit] at this; exact this.symm))
  obtain ⟨w, hw, ew⟩ := v_low (N := N) a1 (n := 20) (by omega) (by omega)
  obtain ⟨s1, e1, f1⟩ := v_countRest (N := N) r i (by omega)
  have h1 := h.eq f1.eq
  obtain ⟨s2, e2, f2⟩ := v_countTrees (N := N) h1.1 i (by omega)
  have h2 := h1.eq f2.eq
  obtain ⟨s3, e3, f3⟩ := v_countTreesAgain (N := N) h2.1 i (by omega)
  have h3 := h2.eq f3
  obtain ⟨s4, e4, f4⟩ := t_W (N := N) h3 hN a1 hw
  have q0 : ¬ nI t.nd = 0 := fun z => hnd ((nI_eq (b := 0) (by omega) (by omega)).mp z)
  refine ⟨s4, ?_, (f1.eq.trans f2.eq).trans (f3.trans f4)⟩
  have r1 : f_X7_rest N γ = some (lN (cntC t t.ed 0 0), s1) := by unfold f_X7_rest; rw [e1, bS_s]
  have r2 : f_X7_trees N s1 = some (lN (cntC t 1 0 0), s2) := by unfold f_X7_trees; rw [e2, bS_s]
  have r3 : f_X7_treesAnew N s2 = some (lN (cntC t 1 0 0), s3) := by unfold f_X7_treesAnew; rw [e3, bS_s]
  have rn : f_X7_nodes N γ = some (nI t.nd) := by simp only [f_X7_nodes, gI, r.nd]
  have rw' : f_X7_wires N γ = some (nI t.wr) := by simp only [f_X7_wires, gI, r.wr]
  rw [told_eq, v_rest q i hN he, bP_s, rg_1 q, jn_p, if_neg q0, rg_1 q, rg_1 q, and_dec, v_treesL q i hN hnd, bP_s]
  show tdB N γ ν a1 (lN (cntC t t.ed 0 0)) (lN (cntC t 1 0 0)) = _
  unfold tdB
  rw [rn, bP_s, rg_1 q, if_pos rfl, rw', bP_s, rg_4 q, if_pos rfl, r1, bS_s, if_pos (by rw [lg_cmp_eq]), r2, bS_s, if_pos (by rw [lg_cmp_eq]), r3, bS_s, if_pos (by rw [lg_cmp_eq]), lq20, ew, bP_s, rg_4 q]
  simp only [jn_p]
  rw [c_in (by omega) (by omega), if_bI1]
  rcases Bool.eq_false_or_eq_true (t.wr.testBit w) with hb | hb
  · rw [if_pos hb]
    rw [hb] at e4
    exact e4
  · rw [if_neg (by rw [hb]; decide)]
    rw [hb] at e4
    exact e4
end told2
