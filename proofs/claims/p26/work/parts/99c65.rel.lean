/-! THE RELATION of what the class's cells hold and what the law's rows do. -/
/-- the law's rows of the beginning, with a network -/
def RB (ν : Wd) (t : Nt) : Prop := (ν.1 4 0 = nI t.nN) ∧ (ν.1 4 1 = nI t.nd) ∧ (ν.1 4 2 = nI t.ed) ∧ (ν.1 4 3 = nI t.nW) ∧ (ν.1 4 4 = nI t.wr) ∧ (∀ w, w < t.nW → ν.1 5 w = nI (t.f w)) ∧ (∀ w, w < t.nW → ν.1 6 w = nI (t.s w)) ∧ (∀ w, w < t.nW → ν.1 7 w = nI (t.c w))
theorem RB.same {ν ν' : Wd} {t : Nt} (h : RB ν t) (h1 : ∀ p, 4 ≤ p → p ≤ 7 → ν'.1 p = ν.1 p) : RB ν' t := by
  unfold RB at *
  rw [h1 4 (by omega) (by omega), h1 5 (by omega) (by omega), h1 6 (by omega) (by omega), h1 7 (by omega) (by omega)]
  exact h
/-- two networks that show alike -/
def EqT (t u : Nt) : Prop := u.nN = t.nN ∧ u.nd = t.nd ∧ u.ed = t.ed ∧ u.nW = t.nW ∧ u.wr = t.wr ∧ ∀ w, w < t.nW → u.f w = t.f w ∧ u.s w = t.s w ∧ u.c w = t.c w
theorem EqT.symm {t u : Nt} (h : EqT t u) : EqT u t := ⟨h.1.symm, h.2.1.symm, h.2.2.1.symm, h.2.2.2.1.symm, h.2.2.2.2.1.symm, fun w hw => by
  obtain ⟨a, b, c⟩ := h.2.2.2.2.2 w (by rw [← h.2.2.2.1]; exact hw)
  exact ⟨a.symm, b.symm, c.symm⟩⟩
theorem EqT.RQ {ν : Wd} {t u : Nt} (h : EqT t u) (r : RQ ν t) : RQ ν u := by
  obtain ⟨h1, h2, h3, h4, h5, h6⟩ := h
  refine ⟨?_, ?_, ?_, ?_, ?_, fun w hw => ?_, fun w hw => ?_, fun w hw => ?_⟩
  · rw [h1]; exact r.nN
  · rw [h2]; exact r.nd
  · rw [h3]; exact r.ed
  · rw [h4]; exact r.nW
  · rw [h5]; exact r.wr
  · rw [h4] at hw; rw [(h6 w hw).1]; exact r.f w hw
  · rw [h4] at hw; rw [(h6 w hw).2.1]; exact r.s w hw
  · rw [h4] at hw; rw [(h6 w hw).2.2]; exact r.c w hw
theorem EqT.RB {ν : Wd} {t u : Nt} (h : EqT t u) (r : RB ν t) : RB ν u := by
  obtain ⟨h1, h2, h3, h4, h5, h6⟩ := h
  obtain ⟨a1, a2, a3, a4, a5, a6, a7, a8⟩ := r
  refine ⟨?_, ?_, ?_, ?_, ?_, fun w hw => ?_, fun w hw => ?_, fun w hw => ?_⟩
  · rw [h1]; exact a1
  · rw [h2]; exact a2
  · rw [h3]; exact a3
  · rw [h4]; exact a4
  · rw [h5]; exact a5
  · rw [h4] at hw; rw [(h6 w hw).1]; exact a6 w hw
  · rw [h4] at hw; rw [(h6 w hw).2.1]; exact a7 w hw
  · rw [h4] at hw; rw [(h6 w hw).2.2]; exact a8 w hw
/-- a move of the log, from network to network -/
def Dn (N : Nat) (u : Nt) (k w : Nat) (u' : Nt) : Prop := k ≤ 5 ∧ w < 20 ∧ ∀ ν, RQ ν u → ∃ ν', f_L_does N ν (nI k) (nI w) = some (1, ν') ∧ RQ ν' u' ∧ FrL ν ν'
theorem Dn.eq {N : Nat} {u u' v v' : Nt} {k w : Nat} (h : Dn N u k w u') (h1 : EqT v u) (h2 : EqT u' v') : Dn N v k w v' :=
  ⟨h.1, h.2.1, fun ν r => by
    obtain ⟨ν', e, r', f⟩ := h.2.2 ν (h1.RQ r)
    exact ⟨ν', e, h2.RQ r', f⟩⟩
/-- the networks on the way -/
def nx (t : Nt) (sn : Nat → Sn) (m i : Nat) : Nt := if i < m then (sn i).at t else t
/-- the values of the edges -/
def RV (σ ν : Wd) (t : Nt) : Prop := ∀ i, i < 7 → σ.1 57 i = ν.1 9 i ∧ (-99 ≤ (ν.1 9 i).toInt ∧ (ν.1 9 i).toInt ≤ 99) ∧ (t.ed.testBit i = false → ν.1 9 i = 0)
/-- the mark -/
def RA (σ ν : Wd) (mk : Int32) (t : Nt) : Prop := ∃ mE : Nat, σ.1 40 0 = nI mE ∧ (∀ i, mE.testBit i = true → t.ed.testBit i = true) ∧ ((mk = 0 ∧ mE = 0) ∨ mk = nI (mE ||| 128)) ∧
  ∀ i j, i < j → j < 7 → mE.testBit i = true → mE.testBit j = true → σ.2 (42 + i) j = ν.2 10 (7 * j + i) ∧ σ.2 (50 + i) j = ν.2 11 (7 * j + i)
/-- the moves that can be undone -/
def RK (N : Nat) (σ ν : Wd) (t : Nt) (B : Prop) : Prop := ∃ (m : Nat) (sn : Nat → Sn), σ.1 28 9 = nI m ∧ ν.1 0 5 = nI m ∧ 3 * m + 3 * pc t.wr ≤ 36 + t.nW ∧ ((B ∨ 0 < m) → RB ν (nx t sn m 0)) ∧
  (∀ i, i < m → 3 * i + 3 * pc (sn i).wr ≤ 36 + (sn i).nW ∧ IN ((sn i).at t) ∧
    (σ.1 34 i = nI (sn i).nd ∧ σ.1 35 i = nI (sn i).wr ∧ σ.1 36 i = nI (sn i).nN ∧ σ.1 37 i = nI (sn i).nW) ∧
    (∃ k w, ν.1 8 i = nI (32 * k + w) ∧ Dn N (nx t sn m i) k w (nx t sn m (i + 1))) ∧
    (if i + 1 < m then KStp σ i (sn i) (sn (i + 1)).nW (sn (i + 1)).c else KStp σ i (sn i) t.nW t.c))
def RT (N : Nat) (σ ν : Wd) (mk : Int32) (t : Nt) (B : Prop) : Prop := RN σ t ∧ RQ ν t ∧ IN t ∧ RV σ ν t ∧ RA σ ν mk t ∧ RK N σ ν t B
theorem RT.eq {N : Nat} {σ ν σ' : Wd} {mk : Int32} {t : Nt} {B : Prop} (h : RT N σ ν mk t B) (g : EqC σ σ') : RT N σ' ν mk t B := by
  obtain ⟨h1, h2, h3, h4, ⟨mE, a1, a2, a3, a4⟩, m, sn, k1, k2, k3, k4, k5⟩ := h
  refine ⟨g.RN h1, h2, h3, fun i hi => ?_, ⟨mE, ?_, a2, a3, fun i j hij hj hi' hj' => ?_⟩, m, sn, ?_, k2, k3, k4, fun i hi => ?_⟩
  · rw [g.1 57 (by omega)]; exact h4 i hi
  · rw [g.1 40 (by omega)]; exact a1
  · rw [g.2.2 (42 + i) (by omega), g.2.2 (50 + i) (by omega)]; exact a4 i j hij hj hi' hj'
  · rw [g.2.1]; exact k1
  · obtain ⟨b1, b2, b3, b4, b5⟩ := k5 i hi
    refine ⟨b1, b2, ?_, b4, ?_⟩
    · rw [g.1 34 (by omega), g.1 35 (by omega), g.1 36 (by omega), g.1 37 (by omega)]; exact b3
    · by_cases q : i + 1 < m
      · rw [if_pos q] at b5 ⊢; exact b5.eq g
      · rw [if_neg q] at b5 ⊢; exact b5.eq g
theorem RT.weak {N : Nat} {σ ν : Wd} {mk : Int32} {t : Nt} {B : Prop} (h : RT N σ ν mk t B) : RT N σ ν mk t False := by
  obtain ⟨h1, h2, h3, h4, h5, m, sn, k1, k2, k3, k4, k5⟩ := h
  exact ⟨h1, h2, h3, h4, h5, m, sn, k1, k2, k3, fun z => k4 (Or.inr (z.resolve_left id)), k5⟩
/-- the kept networks keep their wires' ends -/
theorem at_eq {t t' : Nt} {s : Sn} (he : t'.ed = t.ed) (h3 : ∀ w, w < s.nW → t'.f w = t.f w ∧ t'.s w = t.s w) : EqT (s.at t) (s.at t') :=
  ⟨rfl, rfl, he, rfl, rfl, fun w hw => ⟨(h3 w hw).1, (h3 w hw).2, rfl⟩⟩
section mv
variable {N : Nat} {σ ν : Wd} {mk : Int32} {t : Nt} {B : Prop}
/-- a move that both did, logged -/
theorem RT_move (h : RT N σ ν mk t True) {M : Mv} (g : GM t M) {k w : Nat} (hD : Dn N t k w (t.app M)) : ∃ m, m ≤ 18 ∧ σ.1 28 9 = nI m ∧ ν.1 0 5 = nI m ∧ ∀ σ' ν', CF t M m σ σ' → RQ ν' (t.app M) → FrL ν ν' → RT N σ' (sI (sI ν' 0 5 (nI (m + 1))) 8 m (nI (32 * k + w))) mk (t.app M) True := by
  obtain ⟨h1, h2, i, h4, ⟨mE, a1, a2, a3, a4⟩, m, sn, k1, k2, k3, k4, k5⟩ := id h
  have hw := i.nW
  have gg := g
  obtain ⟨G1, G2, G3, G4, G5⟩ := g.app i
  have low : ∀ d j, j + d + 1 = m → (sn j).nW ≤ t.nW := fun d => by
    induction d with
    | zero =>
      intro j hj
      obtain ⟨-, -, -, -, b5⟩ := k5 j (by omega)
      rw [if_neg (by omega)] at b5
      exact b5.1
    | succ d ih =>
      intro j hj
      obtain ⟨-, -, -, -, b5⟩ := k5 j (by omega)
      rw [if_pos (by omega)] at b5
      exact Nat.le_trans b5.1 (ih (j + 1) (by omega))
  obtain ⟨A1, A2, A3, A4, A5, A6, A7, A8, A9, A10, A11⟩ := g
  refine ⟨m, by omega, k1, k2, fun σ' ν' hc rq fr => ?_⟩
  obtain ⟨c1, c2, c3, c4, c5, c6, c7⟩ := hc
  have hnN : t.ed.testBit t.nN = false := Nat.testBit_lt_two_pow i.ed
  have stp : ∀ sm : Sn, sm.nW = t.nW → sm.c = t.c → KStp σ' m sm (t.app M).nW (t.app M).c := fun sm q1 q2 => by
    unfold KStp
    refine ⟨by rw [q1, G2]; omega, ?_⟩
    rw [q1, q2]
    cases hch : M.ch with
    | none =>
      refine Or.inl ⟨c4.1 hch, fun w hw => ?_⟩
      rw [G5 w hw, hch]; rfl
    | some x =>
      have hx := bit_lt i.wr (A4 x hch).1
      refine Or.inr ⟨x.1, hx, (c4.2 x hch).1, (c4.2 x hch).2, fun w hw hne => ?_⟩
      rw [G5 w hw, hch]
      exact (upN_o hne).symm
  have old : ∀ j, j < m → ∀ s nW c, KStp σ j s nW c → KStp σ' j s nW c := fun j hj s nW c q => by
    unfold KStp at *
    rw [c5 38 j (by omega) (by omega) (by omega), c5 39 j (by omega) (by omega) (by omega)]; exact q
  let sn' : Nat → Sn := fun j => if j = m then ((t.nd, t.wr, t.nN, t.nW), t.c) else sn j
  have sm : sn' m = ((t.nd, t.wr, t.nN, t.nW), t.c) := if_pos rfl
  have so : ∀ j, j ≠ m → sn' j = sn j := fun j hj => if_neg hj
  have nxo : ∀ j, j ≤ m → EqT (nx t sn m j) (nx (t.app M) sn' (m + 1) j) := fun j hj => by
    unfold nx
    rw [if_pos (show j < m + 1 by omega)]
    by_cases e : j = m
    · subst e
      rw [if_neg (by omega), sm]
      exact ⟨rfl, rfl, G3, rfl, rfl, fun w hw => ⟨(app_fs i gg hw).1, (app_fs i gg hw).2, rfl⟩⟩
    · rw [if_pos (by omega), so j e]
      have hle := low (m - 1 - j) j (by omega)
      exact at_eq G3 (fun w hw => app_fs i gg (by omega))
  have nxl : nx (t.app M) sn' (m + 1) (m + 1) = t.app M := if_neg (by omega)
  have nxm : nx t sn m m = t := if_neg (by omega)
  have p0 : ∀ (p : Nat), p ≠ 0 → p ≠ 8 → (sI (sI ν' 0 5 (nI (m + 1))) 8 m (nI (32 * k + w))).1 p = ν'.1 p := fun p hp hq => by rw [sI_place hq, sI_place hp]
  refine ⟨c1, rq.same (fun j hj => by rw [sI_place (by omega), sI_slot (by omega)]) (fun p hp hq => p0 p (by omega) (by omega)), G1, fun x hx => ?_, ⟨mE, ?_, fun j hj => ?_, a3, fun x y hxy hy hx' hy' => ?_⟩, m + 1, sn', c2, ?_, ?_, fun _ => ?_, fun j hj => ?_⟩
  · rw [c6 57 (by omega), p0 9 (by omega) (by omega), fr.2.1 9 (by omega), G3]; exact h4 x hx
  · rw [c6 40 (by omega)]; exact a1
  · rw [G3]; exact a2 j hj
  · rw [c7]
    show _ = ν'.2 10 _ ∧ _ = ν'.2 11 _
    rw [fr.1]; exact a4 x y hxy hy hx' hy'
  · rw [sI_place (by omega), sI_same]
  · rw [G2]; omega
  · exact ((nxo 0 (Nat.zero_le _)).RB (k4 (Or.inl trivial))).same (fun p hp hq => by rw [p0 p (by omega) (by omega), fr.2.1 p (by omega)])
  · by_cases e : j = m
    · subst e
      rw [sm]
      refine ⟨k3, ?_, c3, ⟨k, w, sI_same _ _ _ _, ?_⟩, ?_⟩
      · have it : IN (Sn.at ((t.nd, t.wr, t.nN, t.nW), t.c) t) := i
        exact IN_fs it G3 G1.fb G1.sb (fun w hw => app_fs i gg hw)
      · rw [nxl]
        have q := (nxo j (Nat.le_refl _))
        rw [nxm] at q
        exact hD.eq q.symm ⟨rfl, rfl, rfl, rfl, rfl, fun _ _ => ⟨rfl, rfl, rfl⟩⟩
      · rw [if_neg (by omega)]
        exact stp _ rfl rfl
    · obtain ⟨b1, b2, b3, ⟨kk, ww, b4, b4'⟩, b5⟩ := k5 j (by omega)
      rw [so j e]
      refine ⟨b1, ?_, ?_, ⟨kk, ww, ?_, b4'.eq (nxo j (by omega)).symm (nxo (j + 1) (by omega))⟩, ?_⟩
      · have hle := low (m - 1 - j) j (by omega)
        exact IN_fs b2 G3 G1.fb G1.sb (fun w hw => app_fs i gg (by omega))
      · rw [c5 34 j (by omega) (by omega) e, c5 35 j (by omega) (by omega) e, c5 36 j (by omega) (by omega) e, c5 37 j (by omega) (by omega) e]; exact b3
      · rw [sI_slot e, sI_place (by omega), fr.2.1 8 (by omega)]; exact b4
      · rw [if_pos (by omega)]
        by_cases q : j + 1 < m
        · rw [if_pos q] at b5
          rw [so (j + 1) (by omega)]
          exact old j (by omega) _ _ _ b5
        · rw [if_neg q] at b5
          have ej : j + 1 = m := by omega
          rw [ej, sm]
          exact old j (by omega) _ _ _ b5
end mv
