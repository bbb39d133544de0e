/-! THE RELATION of what the class's cells hold and what the reference's do, and what keeps it. -/
/-- what the calls that only look leave as it is -/
def EqC (σ σ' : Wd) : Prop := (∀ p, (1 ≤ p ∧ p ≤ 4) ∨ 34 ≤ p → σ'.1 p = σ.1 p) ∧ σ'.1 28 9 = σ.1 28 9 ∧ ∀ p, 42 ≤ p → σ'.2 p = σ.2 p
theorem EqC.rfl' (σ : Wd) : EqC σ σ := ⟨fun _ _ => rfl, rfl, fun _ _ => rfl⟩
theorem EqC.trans {a b c : Wd} (h : EqC a b) (g : EqC b c) : EqC a c := ⟨fun p hp => (g.1 p hp).trans (h.1 p hp), g.2.1.trans h.2.1, fun p hp => (g.2.2 p hp).trans (h.2.2 p hp)⟩
theorem FrC.eq {σ σ' : Wd} (h : FrC σ σ') : EqC σ σ' := ⟨fun p hp => h.2 p (by omega), by rw [h.2 28 (by omega)], fun p _ => by rw [h.1]⟩
theorem EqC.RN {σ σ' : Wd} {t : Nt} (h : EqC σ σ') (r : RN σ t) : RN σ' t := r.same (fun p h1 h2 => h.1 p (Or.inl ⟨h1, h2⟩))
/-- what a move keeps of the network -/
def Sn : Type := (Nat × Nat × Nat × Nat) × (Nat → Nat)
def Sn.nd (s : Sn) : Nat := s.1.1
def Sn.wr (s : Sn) : Nat := s.1.2.1
def Sn.nN (s : Sn) : Nat := s.1.2.2.1
def Sn.nW (s : Sn) : Nat := s.1.2.2.2
def Sn.c (s : Sn) : Nat → Nat := s.2
def Sn.at (s : Sn) (t : Nt) : Nt := Nt.mk s.nd t.ed s.wr s.nN s.nW t.f t.s s.c
/-- the step from one kept network to the next, in the class's cells: the one wire that changed -/
def KStp (σ : Wd) (i : Nat) (s : Sn) (nW : Nat) (c : Nat → Nat) : Prop := s.nW ≤ nW ∧ ((σ.1 38 i = -1 ∧ ∀ w, w < s.nW → s.c w = c w) ∨ ∃ w0, w0 < s.nW ∧ σ.1 38 i = nI w0 ∧ σ.1 39 i = nI (s.c w0) ∧ ∀ w, w < s.nW → w ≠ w0 → s.c w = c w)
theorem KStp.eq {σ σ' : Wd} {i : Nat} {s : Sn} {nW : Nat} {c : Nat → Nat} (h : EqC σ σ') (g : KStp σ i s nW c) : KStp σ' i s nW c := by
  unfold KStp at *
  rw [h.1 38 (by omega), h.1 39 (by omega)]; exact g
/-- bounds of the counts -/
theorem cnt_bound {t : Nt} (i : IN t) (R x y : Nat) : cntC t R x y ≤ 2 ^ 12 * 60 ^ (pc t.nd - pc R) := by
  unfold cntC
  rw [sumW_pick]
  have hl : (pick t.P 20).length ≤ 12 := by
    have : ∀ m, (pick t.P m).length = fb_ct (fun k => t.wr.testBit k) m := by
      intro m
      induction m with
      | zero => rfl
      | succ m ih =>
        rw [fb_ct_succ, pick]
        cases hb : t.P m
        · have hb' : t.wr.testBit m = false := hb
          rw [hb']; exact ih
        · have hb' : t.wr.testBit m = true := hb
          rw [hb', if_pos rfl, List.length_append, ih]; rfl
    rw [this]; exact i.few
  refine Nat.le_trans (sumS_le (60 ^ (pc t.nd - pc R)) _ _ (fun S hS => ?_)) (Nat.mul_le_mul_right _ (Nat.pow_le_pow_right (by decide) hl))
  by_cases h : S.length + pc R = pc t.nd ∧ Ac S ∧ PD S (rts R) ∧ Cn S x y
  · rw [iC_pos h, show pc t.nd - pc R = S.length by omega]
    refine (wt_bound S (fun e he => ?_)).2
    obtain ⟨j, hj, rfl⟩ := hS.2 e he
    exact i.cb _ (mem_pick.mp (getD_mem hj)).2
  · rw [iC_neg h]; exact Nat.zero_le _
theorem pc_le7 {S : Nat} (h : S < 128) : pc S ≤ 7 := by rw [pc_upto (n := 7) h (by omega)]; exact fb_ct_le _ 7
theorem pc_pos {S k : Nat} (h : S < 128) (hk : S.testBit k = true) : 1 ≤ pc S := by
  rw [pc_upto (n := 7) h (by omega)]
  have h7 := bit7 h hk
  exact Nat.pos_of_ne_zero (fun q => by
    have := fb_ct_zero.mp q k h7
    rw [hk] at this
    exact absurd this (by decide))
/-- at most 60^7, so within a long -/
theorem cnt_lt {t : Nt} (i : IN t) (R x y : Nat) : cntC t R x y < 2 ^ 62 := by
  have h1 := cnt_bound i R x y
  have h2 : 60 ^ (pc t.nd - pc R) ≤ 60 ^ 7 := Nat.pow_le_pow_right (by decide) (by have := pc_le7 i.nd7; omega)
  have h3 := Nat.mul_le_mul_left (2 ^ 12) h2
  have : 2 ^ 12 * 60 ^ 7 < 2 ^ 62 := by decide
  omega
