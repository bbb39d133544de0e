/-! THE REFERENCE'S LOOP OVER ALL SETS OF WIRES. -/
theorem inits_len {W : Nat} : ∀ m, (inits W m).length + 1 = 2 ^ fb_ct (fun k => W.testBit k) m
  | 0 => rfl
  | m + 1 => by
    have ih := inits_len (W := W) m
    rw [fb_ct_succ]
    unfold inits
    cases hb : W.testBit m
    · exact ih
    · simp only [if_true, List.length_append, List.length_cons, List.length_map]
      rw [Nat.pow_succ]; omega
theorem sub_bits {S W : Nat} (h : S &&& W = S) : ∀ w, S.testBit w = true → W.testBit w = true := fun w hw => by
  rw [← h, Nat.testBit_and, Bool.and_eq_true] at hw; exact hw.2
section mcs
variable {N : Nat} {t : Nt}
/-- what one set adds -/
noncomputable def FS (t : Nt) (R x y : Nat) (S : Nat) : Nat := iC (Ac (ls t S) ∧ OKc t R x y (ls t S)) (wt (ls t S)) 0
theorem v_cstep {ρ : Type} {K : Int64 → Wd → Option ρ} (i : IN t) (hN : 100 ≤ N) {w a b c R x y : Nat} (hq : Qst t w a b c R x y) {S : Nat} (hS : S &&& t.wr = S) (n acc : Nat) {s : Wd} (r : RM s t) :
    ∃ s', fl_X8_counts_9 N (nI w) (nI a) (nI b) (nI c) K (n + 1) (lN acc) (nI S) 1 s = fl_X8_counts_9 N (nI w) (nI a) (nI b) (nI c) K n (lN (acc + FS t R x y S)) (nI (nx 20 t.wr S)) (bI (decide (nx 20 t.wr S ≠ 0))) s' ∧ FrM s s' := by
  have hw20 := i.wr20
  have h7 := i.nd7
  have hle := sub_le' hS
  have hlS : lst t S t.nW = ls t S := (lst_top (Nat.lt_of_le_of_lt hle i.wr) i.nW).symm
  obtain ⟨s2, e1, f1, f2⟩ := v_weightOf (N := N) i hN (show S < 1048576 by omega) (sub_bits hS) r
  rw [hlS] at e1 f2
  have hends := ls_ends i hS
  rw [fl_X8_counts_9, if_neg (show ¬ (1 : Int32) = 0 by decide), e1, bS_s]
  simp only [jn_e]
  have j61 : ∀ (v : Nat) (s4 : Wd), RM s4 t → (bP (f_X8_setBehind N s4 (nI S)) fun v5 => if v5 = 0 then fl_X8_counts_9 N (nI w) (nI a) (nI b) (nI c) K n (lN v) v5 0 s4 else fl_X8_counts_9 N (nI w) (nI a) (nI b) (nI c) K n (lN v) v5 1 s4)
      = fl_X8_counts_9 N (nI w) (nI a) (nI b) (nI c) K n (lN v) (nI (nx 20 t.wr S)) (bI (decide (nx 20 t.wr S ≠ 0))) s4 := by
    intro v s4 r4
    have hnx : nx 20 t.wr S < 2 ^ 31 := by
      rw [← nx_land 20 20 S t.wr (Nat.le_refl _) hS (by omega)]
      exact Nat.lt_of_le_of_lt Nat.and_le_right (by omega)
    rw [v_setBehind r4 i hS, bP_s]
    by_cases q : nx 20 t.wr S = 0
    · rw [q]; rfl
    · rw [if_neg (show ¬ nI (nx 20 t.wr S) = 0 from fun e => q ((nI_eq (b := 0) hnx (by omega)).mp e)), decide_eq_true q]; rfl
  by_cases ha : Ac (ls t S)
  · have hb := wt_ac ha (fun e he => (hends e he).1) (fun e he => (hends e he).2.1)
    have hlt : ¬ lg_cmp (lN (wt (ls t S))) 0 ≤ 0 := by rw [lg_cmp_le, lN_le0 (by omega)]; omega
    obtain ⟨lab, hl⟩ := f2 ha
    have r2 := f1.RM r
    have hpc : pc S ≤ pc t.nd := ls_few i hS ha
    have hpl : (ls t S).length = pc S := lst_len 20
    obtain ⟨s3, v, e3, f3, f4⟩ := v_isOf (N := N) i hN hq ha (fun e he => (hends e he).2.2) r2 hl (by omega)
    rw [hpl] at e3
    rw [iC_pos ha, if_neg hlt]
    simp (disch := omega) only [gI, r2.nd, v_many hN, bP_s, pk_sub, e3, bS_s, if_bI0, lL, lN_add]
    refine ⟨s3, ?_, f1.trans f3⟩
    unfold FS
    cases v
    · rw [iC_neg (fun h => absurd (f4.mpr h.2) (by decide)), Nat.add_zero]
      exact j61 acc s3 (f3.RM r2)
    · rw [iC_pos ⟨ha, f4.mp rfl⟩]
      exact j61 (acc + wt (ls t S)) s3 (f3.RM r2)
  · refine ⟨s2, ?_, f1⟩
    rw [iC_neg ha, if_pos (show lg_cmp (lN 0) 0 ≤ 0 by decide)]
    unfold FS
    rw [iC_neg (fun h => ha h.1), Nat.add_zero]
    exact j61 acc s2 (f1.RM r)
theorem v_cloop {ρ : Type} {K : Int64 → Wd → Option ρ} (i : IN t) (hN : 100 ≤ N) {w a b c R x y : Nat} (hq : Qst t w a b c R x y) : ∀ (L : List Nat) (S n acc : Nat) (s : Wd), Pth 20 t.wr S L t.wr → L.length + 1 < n → RM s t →
    ∃ s', fl_X8_counts_9 N (nI w) (nI a) (nI b) (nI c) K n (lN acc) (nI S) 1 s = K (lN (acc + (sumL (FS t R x y) L + FS t R x y t.wr))) s' ∧ FrM s s' := by
  have hw20 := i.wr20
  intro L
  induction L with
  | nil =>
    intro S n acc s hp hn r
    have e : S = t.wr := hp
    subst e
    obtain ⟨n, rfl⟩ : ∃ k, n = k + 2 := ⟨n - 2, by simp at hn; omega⟩
    obtain ⟨s', e1, f1⟩ := v_cstep (K := K) i hN hq (Nat.and_self t.wr) (n + 1) acc r
    refine ⟨s', ?_, f1⟩
    rw [e1, nx_last]
    show fl_X8_counts_9 N _ _ _ _ K (n + 1) _ _ 0 s' = _
    rw [fl_X8_counts_9, if_pos rfl]
    show _ = K (lN (acc + (0 + FS t R x y t.wr))) s'
    rw [Nat.zero_add]
  | cons z L ih =>
    intro S n acc s hp hn r
    obtain ⟨rfl, h2, h3, h4⟩ := hp
    obtain ⟨n, rfl⟩ : ∃ k, n = k + 1 := ⟨n - 1, by omega⟩
    obtain ⟨s1, e1, f1⟩ := v_cstep (K := K) i hN hq h2 n acc r
    obtain ⟨s', e2, f2⟩ := ih (nx 20 t.wr S) n (acc + FS t R x y S) s1 h4 (by simp at hn; omega) (f1.RM r)
    refine ⟨s', ?_, f1.trans f2⟩
    rw [e1, decide_eq_true (nx_ne 20 t.wr S (by omega) h2 h3)]
    refine Eq.trans e2 ?_
    show _ = K (lN (acc + (FS t R x y S + sumL (FS t R x y) L + FS t R x y t.wr))) s'
    congr 2
    omega
theorem v_counts (i : IN t) (hN : 5000 ≤ N) {w a b c R x y : Nat} (hq : Qst t w a b c R x y) {s : Wd} (r : RM s t) :
    ∃ s', f_X8_counts N s (nI w) (nI a) (nI b) (nI c) = some (lN (cntC t R x y), s') ∧ FrM s s' := by
  have hw20 := i.wr20
  have hlow : low2 t.wr 20 = t.wr := Nat.mod_eq_of_lt (by omega)
  have hp := Pth.all (n := 20) (W := t.wr) 20 (Nat.le_refl _)
  rw [hlow] at hp
  have hlen := inits_len (W := t.wr) 20
  have hpw : 2 ^ fb_ct (fun k => t.wr.testBit k) 20 ≤ 2 ^ 12 := Nat.pow_le_pow_right (by decide) i.few
  obtain ⟨s', e1, f1⟩ := v_cloop (N := N) (K := fun v13 s14 => some (v13, s14)) i (by omega) hq (inits t.wr 20) 0 N 0 s hp (by omega) r
  refine ⟨s', ?_, f1⟩
  unfold f_X8_counts
  refine Eq.trans e1 ?_
  congr 2
  congr 1
  rw [Nat.zero_add]
  have := sumL_inits (t := t) (W := t.wr) 20 (fun T => iC (Ac T ∧ OKc t R x y T) (wt T) 0)
  rw [hlow] at this
  refine Eq.trans this ?_
  unfold cntC
  refine sumW_congr 20 _ _ (fun is _ _ => iC_congr ?_)
  unfold OKc
  exact ⟨fun h => ⟨h.2.1, h.1, h.2.2.1, h.2.2.2⟩, fun h => ⟨h.2.1, h.1, h.2.2.1, h.2.2.2⟩⟩
end mcs
