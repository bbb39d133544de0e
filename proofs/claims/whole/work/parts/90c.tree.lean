/-! TREE. -/
/-- the code of tree's exception -/
def m21 (q : Nat) : Nat := if q = 2 then 1 else q
/-- each int is one of these -/
theorem nI_all (x : Int32) : x = nI x.toBitVec.toNat := by
  apply Int32.toBitVec_inj.1
  show x.toBitVec = BitVec.ofNat 32 x.toBitVec.toNat
  simp
section tree
variable {N : Nat} {σ τ : Wd} {t : Nt}
theorem m_tstep {K : Wd → Option (Int32 × Wd)} (i : IN t) (hN : 100 ≤ N) {a c S : Nat} (ha : a < 2 ^ 31) (hc : c ≤ a) (hS : S &&& t.wr = S) (n : Nat) {s : Wd} (r : RM s t) :
    ∃ s', fl_X8_tree_29 N (nI a) K (n + 1) (nI c) (nI S) 1 s = (if trB t S = true then (if c = a then some (nI S, s') else fl_X8_tree_29 N (nI a) K n (nI (c + 1)) (nI (nx 20 t.wr S)) (bI (decide (nx 20 t.wr S ≠ 0))) s') else fl_X8_tree_29 N (nI a) K n (nI c) (nI (nx 20 t.wr S)) (bI (decide (nx 20 t.wr S ≠ 0))) s') ∧ FrM s s' := by
  have hw20 := i.wr20
  have h7 := i.nd7
  have hle := sub_le' hS
  have hlS : lst t S t.nW = ls t S := (lst_top (Nat.lt_of_le_of_lt hle i.wr) i.nW).symm
  obtain ⟨s2, e1, f1, -⟩ := v_weightOf (N := N) i hN (show S < 1048576 by omega) (sub_bits hS) r
  rw [hlS] at e1
  have hends := ls_ends i hS
  have r2 := f1.RM r
  rw [fl_X8_tree_29, if_neg (show ¬ (1 : Int32) = 0 by decide), e1, bS_s]
  simp only [jn_e]
  have hnx : nx 20 t.wr S < 2 ^ 31 := by
    rw [← nx_land 20 20 S t.wr (Nat.le_refl _) hS (by omega)]
    exact Nat.lt_of_le_of_lt Nat.and_le_right (by omega)
  have j85 : ∀ (c : Nat), (bP (f_X8_setBehind N s2 (nI S)) fun v7 => if v7 = 0 then fl_X8_tree_29 N (nI a) K n (nI c) v7 0 s2 else fl_X8_tree_29 N (nI a) K n (nI c) v7 1 s2)
      = fl_X8_tree_29 N (nI a) K n (nI c) (nI (nx 20 t.wr S)) (bI (decide (nx 20 t.wr S ≠ 0))) s2 := by
    intro c
    rw [v_setBehind r2 i hS, bP_s]
    by_cases q : nx 20 t.wr S = 0
    · rw [q]; rfl
    · rw [if_neg (show ¬ nI (nx 20 t.wr S) = 0 from fun e => q ((nI_eq (b := 0) hnx (by omega)).mp e)), decide_eq_true q]; rfl
  refine ⟨s2, ?_, f1⟩
  by_cases hac : Ac (ls t S)
  · have hb := wt_ac hac (fun e he => (hends e he).1) (fun e he => (hends e he).2.1)
    have hlt : ¬ lg_cmp (lN (wt (ls t S))) 0 ≤ 0 := by rw [lg_cmp_le, lN_le0 (by omega)]; omega
    have hpc : pc S ≤ pc t.nd := ls_few i hS hac
    have hpn := pc_le7 h7
    rw [iC_pos hac, if_neg hlt]
    simp (disch := omega) only [gI, r2.nd, v_many hN, bP_s, pk_sub]
    by_cases q : pc t.nd = pc S + 1
    · rw [if_pos (trB_iff.mpr ⟨hac, q⟩), if_pos (show nI (pc t.nd - pc S) = 1 by rw [show pc t.nd - pc S = 1 by omega]; rfl)]
      by_cases q2 : c = a
      · rw [if_pos q2, if_pos (by rw [q2])]
      · rw [if_neg q2, if_neg (fun e => q2 ((nI_eq (by omega) ha).mp e)), nI_1]
        exact j85 (c + 1)
    · rw [if_neg (fun h => q (trB_iff.mp h).2), if_neg (fun e => q (by have := (nI_eq (b := 1) (by omega) (by omega)).mp e; omega))]
      exact j85 c
  · rw [iC_neg hac, if_pos (show lg_cmp (lN 0) 0 ≤ 0 by decide), if_neg (fun h => hac (trB_iff.mp h).1)]
    exact j85 c
theorem atI_zero (x : Nat) (M : List Nat) : atI (x :: M) 0 = nI x := by
  unfold atI
  rw [if_pos (by simp)]; rfl
theorem atI_succ (x : Nat) (M : List Nat) (q : Nat) : atI (x :: M) (q + 1) = atI M q := by
  have := atI_right (L := [x]) (M := M) (q := q + 1) (by simp)
  exact this
theorem m_tloop (i : IN t) (hN : 100 ≤ N) {a : Nat} (ha : a < 2 ^ 31) : ∀ (L : List Nat) (S n c : Nat) (s : Wd), Pth 20 t.wr S L t.wr → L.length + 1 < n → c ≤ a → RM s t →
    ∃ s', fl_X8_tree_29 N (nI a) (fun s12 => some ((-1), s12)) n (nI c) (nI S) 1 s = some (atI ((L ++ [t.wr]).filter (trB t)) (a - c), s') ∧ FrM s s' := by
  have hw20 := i.wr20
  intro L
  induction L with
  | nil =>
    intro S n c s hp hn hc r
    have e : S = t.wr := hp
    subst e
    obtain ⟨n, rfl⟩ : ∃ k, n = k + 2 := ⟨n - 2, by simp at hn; omega⟩
    obtain ⟨s', e1, f1⟩ := m_tstep (K := fun s12 => some ((-1), s12)) i hN ha hc (Nat.and_self t.wr) (n + 1) r
    refine ⟨s', ?_, f1⟩
    rw [e1, nx_last]
    have fin : ∀ c : Nat, fl_X8_tree_29 N (nI a) (fun s12 => some ((-1), s12)) (n + 1) (nI c) (nI 0) (bI (decide ((0 : Nat) ≠ 0))) s' = some (-1, s') := fun c => by
      rw [fl_X8_tree_29]; rfl
    rw [fin, fin]
    show _ = some (atI (List.filter (trB t) [t.wr]) (a - c), s')
    cases hb : trB t t.wr
    · have : List.filter (trB t) [t.wr] = [] := by simp [hb]
      rw [this]; rfl
    · have : List.filter (trB t) [t.wr] = [t.wr] := by simp [hb]
      rw [this, if_pos rfl]
      by_cases q : c = a
      · rw [if_pos q, q, Nat.sub_self, atI_zero]
      · rw [if_neg q, show a - c = (a - c - 1) + 1 by omega, atI_succ]; rfl
  | cons z L ih =>
    intro S n c s hp hn hc r
    obtain ⟨rfl, h2, h3, h4⟩ := hp
    obtain ⟨n, rfl⟩ : ∃ k, n = k + 1 := ⟨n - 1, by omega⟩
    obtain ⟨s1, e1, f1⟩ := m_tstep (K := fun s12 => some ((-1), s12)) i hN ha hc h2 n r
    have hne := nx_ne 20 t.wr S (by omega) h2 h3
    rw [decide_eq_true hne] at e1
    have hlen : L.length + 1 < n := by simp at hn; omega
    rw [e1]
    show ∃ s', _ = some (atI (List.filter (trB t) (S :: (L ++ [t.wr]))) (a - c), s') ∧ _
    cases hb : trB t S
    · obtain ⟨s', e2, f2⟩ := ih (nx 20 t.wr S) n c s1 h4 hlen hc (f1.RM r)
      refine ⟨s', ?_, f1.trans f2⟩
      rw [List.filter_cons_of_neg (by rw [hb]; decide), if_neg (by decide)]
      exact e2
    · rw [List.filter_cons_of_pos hb, if_pos rfl]
      by_cases q : c = a
      · refine ⟨s1, ?_, f1⟩
        rw [if_pos q, q, Nat.sub_self, atI_zero]
      · obtain ⟨s', e2, f2⟩ := ih (nx 20 t.wr S) n (c + 1) s1 h4 hlen (by omega) (f1.RM r)
        refine ⟨s', ?_, f1.trans f2⟩
        rw [if_neg q, show a - c = (a - (c + 1)) + 1 by omega, atI_succ]
        exact e2
theorem v_treeAt (r : RN σ t) (i : IN t) (hN : 100 ≤ N) {a : Nat} (ha : a < 2 ^ 31) : ∃ σ', f_X0_treeAt N σ (nI a) = some (atI (trL t) a, σ') ∧ FrC σ σ' := by
  unfold f_X0_treeAt
  rw [v_lowestNode r i hN, bP_s]
  obtain ⟨-, h2, h3, h4⟩ := low_spec t.nd 7 0
  by_cases h : low t.nd 7 0 < 7
  · have hb := h4 (by omega)
    have hp1 := pc_pos i.nd7 hb
    have hp7 := pc_le7 i.nd7
    have hone := pc_one ⟨_, h⟩
    simp only at hone
    obtain ⟨s1, e1, g1, g2, g3, g4, g5, g6⟩ := v_begin (N := N) r i hN (R := 2 ^ low t.nd 7 0) (Nat.pow_lt_pow_right (by decide) h) (by rw [hone]; exact hp1)
    have hlen := pick_len_le t.Q 20
    rw [hone] at g2
    have fr : FrC σ (sI s1 5 8 (nI a)) := ⟨g6.1, fun p hp => by rw [sI_place (by omega)]; exact g6.2 p hp⟩
    obtain ⟨s2, e2, k0, k1, k2, k3, k4⟩ := v_find (N := N) i hN (R := 2 ^ low t.nd 7 0) (z := pc t.nd - 1) (m := (pick t.Q 20).length) (a := (s1.1 5 6).toBitVec.toNat) (b := (s1.1 5 7).toBitVec.toNat) (V := fun j => (pick t.Q 20).getD j 0) (Nat.pow_lt_pow_right (by decide) h) (by omega)
      ⟨hlen, fun j hj => by
        have := mem_pick.mp (getD_mem hj)
        refine ⟨this.1, ?_⟩
        have h := this.2
        unfold Nt.Q at h
        rw [Bool.and_eq_true] at h
        exact h.1⟩ (pc t.nd - 1) 10 0 (pick t.Q 20).length [] (sI s1 5 8 (nI a)) a (by omega) (by omega) (Nat.le_refl _) ha
      ⟨(g6.RN r).same (fun p _ hp' => sI_place (by omega)), by rw [sI_slot (by omega)]; exact g1, by rw [sI_slot (by omega)]; exact g2, by rw [sI_slot (by omega)]; exact nI_all _, by rw [sI_slot (by omega)]; exact nI_all _, fun j hj => by rw [sI_place (by omega)]; exact g4 j hj⟩
      (g5.same (by rw [sI_place (by omega)])) (sI_same _ _ _ _)
    refine ⟨s2, ?_, ⟨by rw [k4]; exact fr.1, fun p hp => ?_⟩⟩
    · unfold oI
      rw [if_pos h]
      simp (disch := omega) only [nI_m1, if_false, v_setOf, bP_s]
      rw [e1, bP_s]
      simp (disch := omega) only [wI, gI, sI_slot, g3]
      rw [lq0, e2, bS_s, trL_lsF i h hp1]
    · rcases hp with hp | hp
      · rw [k1 p (by omega) (by omega)]; exact fr.2 p (Or.inl hp)
      · rw [k3 p hp]; exact fr.2 p (Or.inr hp)
  · refine ⟨σ, ?_, FrC.rfl' σ⟩
    unfold oI
    rw [if_neg h, if_pos rfl]
    have hz : pc t.nd = 0 := by
      rw [pc_upto (n := 7) i.nd7 (by omega)]
      exact fb_ct_zero.mpr (fun k hk => h3 k (by omega) (by omega))
    have : trL t = [] := List.filter_eq_nil_iff.mpr (fun x _ => fun q => by
      have := (trB_iff.mp q).2
      omega)
    rw [this]; rfl
theorem sim_tree (h : RT σ τ t) (hN : 5000 ≤ N) (x : Int32) : SimX m21 (f_X7_tree N σ x) (f_X8_tree N τ x) := by
  have i := h.2.2.1
  have hw20 := i.wr20
  unfold f_X7_tree f_X8_tree
  simp only [jn_e, wI, gI, thr_0]
  by_cases h0 : x < 0
  · have h0' : ¬ (0 : Int32) ≤ x := by rw [Int32.not_le]; exact h0
    rw [if_pos h0, if_neg h0', if_neg (show ¬ (1 : Int32) ≤ 0 by decide)]
    exact ⟨σ, sI τ 0 0 1, ⟨t, h.eq (EqC.rfl' σ) (EqM.thr τ 1)⟩, Or.inl ⟨2, 0, Or.inr (Or.inl rfl), rfl, rfl, thr_0 _ _⟩⟩
  · obtain ⟨a, ha, rfl⟩ := nI_of h0
    rw [if_neg h0, if_pos (show (0 : Int32) ≤ nI a from nI_le (a := 0) (by omega) ha), if_pos (show (0 : Int32) ≤ 0 by decide)]
    obtain ⟨s1, e1, f1⟩ := v_treeAt (N := N) h.1 i (by omega) ha
    have hlow : low2 t.wr 20 = t.wr := Nat.mod_eq_of_lt (by omega)
    have hp := Pth.all (n := 20) (W := t.wr) 20 (Nat.le_refl _)
    rw [hlow] at hp
    have hlen := inits_len (W := t.wr) 20
    have hpw : 2 ^ fb_ct (fun k => t.wr.testBit k) 20 ≤ 2 ^ 12 := Nat.pow_le_pow_right (by decide) i.few
    obtain ⟨s2, e2, f2⟩ := m_tloop (N := N) i (by omega) ha (inits t.wr 20) 0 N 0 (sI τ 0 0 0) hp (by omega) (by omega) ((EqM.thr τ 0).RM h.2.1)
    rw [Nat.sub_zero] at e2
    refine ⟨s1, s2, ⟨t, h.eq f1.eq ((EqM.thr τ 0).trans f2.eq)⟩, Or.inr ⟨atI (trL t) a, ?_, ?_, thrK f2⟩⟩
    · rw [e1, bS_s]
    · exact e2
end tree
