/-! THE RELATION of what the class's cells hold and what the reference's do, and what keeps it. -/
/-- what the calls that only look leave as it is -/
def EqC (σ σ' : Wd) : Prop := (∀ p, (1 ≤ p ∧ p ≤ 4) ∨ 34 ≤ p → σ'.1 p = σ.1 p) ∧ σ'.1 28 9 = σ.1 28 9 ∧ ∀ p, 42 ≤ p → σ'.2 p = σ.2 p
def EqM (τ τ' : Wd) : Prop := (∀ p, 1 ≤ p → p ≤ 5 → τ'.1 p = τ.1 p) ∧ (∀ k, 1 ≤ k → k ≤ 15 → τ'.1 0 k = τ.1 0 k) ∧ τ'.2 = τ.2
theorem EqC.rfl' (σ : Wd) : EqC σ σ := ⟨fun _ _ => rfl, rfl, fun _ _ => rfl⟩
theorem EqM.rfl' (σ : Wd) : EqM σ σ := ⟨fun _ _ _ => rfl, fun _ _ _ => rfl, rfl⟩
theorem EqC.trans {a b c : Wd} (h : EqC a b) (g : EqC b c) : EqC a c := ⟨fun p hp => (g.1 p hp).trans (h.1 p hp), g.2.1.trans h.2.1, fun p hp => (g.2.2 p hp).trans (h.2.2 p hp)⟩
theorem EqM.trans {a b c : Wd} (h : EqM a b) (g : EqM b c) : EqM a c := ⟨fun p hp hq => (g.1 p hp hq).trans (h.1 p hp hq), fun k h1 h2 => (g.2.1 k h1 h2).trans (h.2.1 k h1 h2), g.2.2.trans h.2.2⟩
theorem FrC.eq {σ σ' : Wd} (h : FrC σ σ') : EqC σ σ' := ⟨fun p hp => h.2 p (by omega), by rw [h.2 28 (by omega)], fun p _ => by rw [h.1]⟩
theorem FrM.eq {σ σ' : Wd} (h : FrM σ σ') : EqM σ σ' := ⟨fun p h1 h2 => h.2 p (by omega) (by omega), fun k _ _ => by rw [h.2 0 (by omega) (by omega)], h.1⟩
theorem EqM.thr (τ : Wd) (v : Int32) : EqM τ (sI τ 0 0 v) := ⟨fun p h1 _ => sI_place (by omega), fun k h1 _ => sI_slot (by omega), rfl⟩
theorem EqC.RN {σ σ' : Wd} {t : Nt} (h : EqC σ σ') (r : RN σ t) : RN σ' t := r.same (fun p h1 h2 => h.1 p (Or.inl ⟨h1, h2⟩))
theorem EqM.RM {τ τ' : Wd} {t : Nt} (h : EqM τ τ') (r : RM τ t) : RM τ' t :=
  ⟨by rw [h.2.1 2 (by omega) (by omega)]; exact r.nd, by rw [h.2.1 3 (by omega) (by omega)]; exact r.ed, by rw [h.2.1 5 (by omega) (by omega)]; exact r.wr, by rw [h.2.1 1 (by omega) (by omega)]; exact r.nN, by rw [h.2.1 4 (by omega) (by omega)]; exact r.nW,
   by rw [h.1 1 (by omega) (by omega)]; exact r.f, by rw [h.1 2 (by omega) (by omega)]; exact r.s, by rw [h.1 3 (by omega) (by omega)]; exact r.c⟩
/-- the values of the edges -/
def RV (σ τ : Wd) (t : Nt) : Prop := ∀ i, i < 7 → σ.1 57 i = τ.1 4 i ∧ (-99 ≤ (τ.1 4 i).toInt ∧ (τ.1 4 i).toInt ≤ 99) ∧ (t.ed.testBit i = false → τ.1 4 i = 0)
/-- the mark -/
def RA (σ τ : Wd) (t : Nt) : Prop := ∃ mE : Nat, σ.1 40 0 = nI mE ∧ τ.1 0 15 = nI mE ∧ (∀ i, mE.testBit i = true → t.ed.testBit i = true) ∧ ((τ.1 0 14 = 0 ∧ mE = 0) ∨ τ.1 0 14 = 1) ∧
  ∀ i j, i < j → j < 7 → mE.testBit i = true → mE.testBit j = true → σ.2 (42 + i) j = τ.2 8 (7 * j + i) ∧ σ.2 (50 + i) j = τ.2 9 (7 * j + i)
/-- what a move keeps of the network -/
def Sn : Type := (Nat × Nat × Nat × Nat) × (Nat → Nat)
def Sn.nd (s : Sn) : Nat := s.1.1
def Sn.wr (s : Sn) : Nat := s.1.2.1
def Sn.nN (s : Sn) : Nat := s.1.2.2.1
def Sn.nW (s : Sn) : Nat := s.1.2.2.2
def Sn.c (s : Sn) : Nat → Nat := s.2
def Sn.at (s : Sn) (t : Nt) : Nt := Nt.mk s.nd t.ed s.wr s.nN s.nW t.f t.s s.c
/-- the step from one kept network to the next, in the class's cells: the one wire that changed -/
def KStp (σ : Wd) (i : Nat) (s : Sn) (nW : Nat) (c : Nat → Nat) : Prop := s.nW ≤ nW ∧ ((σ.1 38 i = -1 ∧ ∀ w, w < s.nW → s.c w = c w) ∨ ∃ w0, w0 < s.nW ∧ σ.1 38 i = nI w0 ∧ σ.1 39 i = nI (s.c w0) ∧ ∀ w, w < s.nW → w ≠ w0 → s.c w = c w)
/-- the moves that can be undone -/
def RK (σ τ : Wd) (t : Nt) : Prop := ∃ (m : Nat) (sn : Nat → Sn), σ.1 28 9 = nI m ∧ τ.1 0 10 = nI m ∧ 3 * m + 3 * pc t.wr ≤ 36 + t.nW ∧
  (∀ i, i < m → 3 * i + 3 * pc (sn i).wr ≤ 36 + (sn i).nW ∧ IN ((sn i).at t) ∧
    (σ.1 34 i = nI (sn i).nd ∧ σ.1 35 i = nI (sn i).wr ∧ σ.1 36 i = nI (sn i).nN ∧ σ.1 37 i = nI (sn i).nW) ∧
    (τ.1 5 (25 * i) = nI (sn i).nd ∧ τ.1 5 (25 * i + 1) = nI t.ed ∧ τ.1 5 (25 * i + 2) = nI (sn i).nN ∧ τ.1 5 (25 * i + 3) = nI (sn i).wr ∧ τ.1 5 (25 * i + 4) = nI (sn i).nW ∧ ∀ w, w < 20 → τ.1 5 (25 * i + 5 + w) = nI ((sn i).c w)) ∧
    (if i + 1 < m then KStp σ i (sn i) (sn (i + 1)).nW (sn (i + 1)).c else KStp σ i (sn i) t.nW t.c))
def RT (σ τ : Wd) (t : Nt) : Prop := RN σ t ∧ RM τ t ∧ IN t ∧ RV σ τ t ∧ RA σ τ t ∧ RK σ τ t
def RR (σ τ : Wd) : Prop := ∃ t, RT σ τ t
theorem KStp.eq {σ σ' : Wd} {i : Nat} {s : Sn} {nW : Nat} {c : Nat → Nat} (h : EqC σ σ') (g : KStp σ i s nW c) : KStp σ' i s nW c := by
  unfold KStp at *
  rw [h.1 38 (by omega), h.1 39 (by omega)]; exact g
theorem RT.eq {σ τ σ' τ' : Wd} {t : Nt} (h : RT σ τ t) (g1 : EqC σ σ') (g2 : EqM τ τ') : RT σ' τ' t := by
  obtain ⟨h1, h2, h3, h4, ⟨mE, a1, a2, a3, a4, a5⟩, m, sn, k1, k2, k3, k4⟩ := h
  refine ⟨g1.RN h1, g2.RM h2, h3, fun i hi => ?_, ⟨mE, ?_, ?_, a3, ?_, fun i j hij hj hi' hj' => ?_⟩, m, sn, ?_, ?_, k3, fun i hi => ?_⟩
  · rw [g1.1 57 (by omega), g2.1 4 (by omega) (by omega)]; exact h4 i hi
  · rw [g1.1 40 (by omega)]; exact a1
  · rw [g2.2.1 15 (by omega) (by omega)]; exact a2
  · rw [g2.2.1 14 (by omega) (by omega)]; exact a4
  · rw [g1.2.2 (42 + i) (by omega), g1.2.2 (50 + i) (by omega), g2.2.2]; exact a5 i j hij hj hi' hj'
  · rw [g1.2.1]; exact k1
  · rw [g2.2.1 10 (by omega) (by omega)]; exact k2
  · obtain ⟨b1, b2, b3, b4, b5⟩ := k4 i hi
    refine ⟨b1, b2, ?_, ?_, ?_⟩
    · rw [g1.1 34 (by omega), g1.1 35 (by omega), g1.1 36 (by omega), g1.1 37 (by omega)]; exact b3
    · rw [g2.1 5 (by omega) (by omega)]; exact b4
    · by_cases q : i + 1 < m
      · rw [if_pos q] at b5 ⊢; exact b5.eq g1
      · rw [if_neg q] at b5 ⊢; exact b5.eq g1
/-- bounds of the counts -/
theorem cnt_bound {t : Nt} (i : IN t) (R x y : Nat) : cntC t R x y ≤ 2 ^ 12 * 60 ^ (pc t.nd - pc R) := by
  unfold cntC
  rw [sumW_pick]
  have hl : (pick t.P 20).length ≤ 12 := by
    have : ∀ m, (pick t.P m).length = fb_ct (fun k => t.wr.testBit k) m := by
      intro m
      induction m with
      | zero => rfl
      | succ m ih =>
        rw [fb_ct_succ, pick]
        cases hb : t.P m
        · have hb' : t.wr.testBit m = false := hb
          rw [hb']; exact ih
        · have hb' : t.wr.testBit m = true := hb
          rw [hb', if_pos rfl, List.length_append, ih]; rfl
    rw [this]; exact i.few
  refine Nat.le_trans (sumS_le (60 ^ (pc t.nd - pc R)) _ _ (fun S hS => ?_)) (Nat.mul_le_mul_right _ (Nat.pow_le_pow_right (by decide) hl))
  by_cases h : S.length + pc R = pc t.nd ∧ Ac S ∧ PD S (rts R) ∧ Cn S x y
  · rw [iC_pos h, show pc t.nd - pc R = S.length by omega]
    refine (wt_bound S (fun e he => ?_)).2
    obtain ⟨j, hj, rfl⟩ := hS.2 e he
    exact i.cb _ (mem_pick.mp (getD_mem hj)).2
  · rw [iC_neg h]; exact Nat.zero_le _
theorem pc_le7 {S : Nat} (h : S < 128) : pc S ≤ 7 := by rw [pc_upto (n := 7) h (by omega)]; exact fb_ct_le _ 7
theorem pc_pos {S k : Nat} (h : S < 128) (hk : S.testBit k = true) : 1 ≤ pc S := by
  rw [pc_upto (n := 7) h (by omega)]
  have h7 := bit7 h hk
  exact Nat.pos_of_ne_zero (fun q => by
    have := fb_ct_zero.mp q k h7
    rw [hk] at this
    exact absurd this (by decide))
/-- at most 60^7, so within a long -/
theorem cnt_lt {t : Nt} (i : IN t) (R x y : Nat) : cntC t R x y < 2 ^ 62 := by
  have h1 := cnt_bound i R x y
  have h2 : 60 ^ (pc t.nd - pc R) ≤ 60 ^ 7 := Nat.pow_le_pow_right (by decide) (by have := pc_le7 i.nd7; omega)
  have h3 := Nat.mul_le_mul_left (2 ^ 12) h2
  have : 2 ^ 12 * 60 ^ 7 < 2 ^ 62 := by decide
  omega
