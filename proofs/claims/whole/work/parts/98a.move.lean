/-! MOVES: both together. -/
/-- what the class's cells show of a move that was done -/
def CF (t : Nt) (M : Mv) (m : Nat) (σ σ' : Wd) : Prop := RN σ' (t.app M) ∧ σ'.1 28 9 = nI (m + 1) ∧ (σ'.1 34 m = nI t.nd ∧ σ'.1 35 m = nI t.wr ∧ σ'.1 36 m = nI t.nN ∧ σ'.1 37 m = nI t.nW) ∧ ((M.ch = none → σ'.1 38 m = -1) ∧ ∀ x, M.ch = some x → σ'.1 38 m = nI x.1 ∧ σ'.1 39 m = nI (t.c x.1)) ∧ (∀ p j, 34 ≤ p → p ≤ 39 → j ≠ m → σ'.1 p j = σ.1 p j) ∧ (∀ p, 39 < p → σ'.1 p = σ.1 p) ∧ σ'.2 = σ.2
theorem sI_id {σ : Wd} {q k : Nat} {v : Int32} (h : σ.1 q k = v) : sI σ q k v = σ := by
  refine Prod.ext (funext fun p => ?_) rfl
  by_cases e : p = q
  · subst e
    funext j
    by_cases ej : j = k
    · subst ej; rw [sI_same, h]
    · rw [sI_slot ej]
  · rw [sI_place e]
theorem addWs_fs : ∀ (L : List (Nat × Nat × Nat)) (u : Nt) (w : Nat), w < u.nW → (addWs u L).f w = u.f w ∧ (addWs u L).s w = u.s w
  | [], u, w, _ => ⟨rfl, rfl⟩
  | e :: L, u, w, h => by
    have hnW : (u.addW e.1 e.2.1 e.2.2).nW = u.nW + 1 := rfl
    obtain ⟨h1, h2⟩ := addWs_fs L (u.addW e.1 e.2.1 e.2.2) w (by rw [hnW]; omega)
    refine ⟨?_, ?_⟩
    · show (addWs (u.addW e.1 e.2.1 e.2.2) L).f w = _
      rw [h1]; exact upN_o (by omega)
    · show (addWs (u.addW e.1 e.2.1 e.2.2) L).s w = _
      rw [h2]; exact upN_o (by omega)
theorem app_fs {t : Nt} {M : Mv} (i : IN t) (g : GM t M) {w : Nat} (h : w < t.nW) : (t.app M).f w = t.f w ∧ (t.app M).s w = t.s w := by
  obtain ⟨-, b2, -⟩ := g.base i
  obtain ⟨h1, h2⟩ := addWs_fs M.L (t.base M) w (by rw [b2]; exact h)
  have e : (t.base M).f = t.f ∧ (t.base M).s = t.s := by
    unfold Nt.base
    split
    · exact ⟨rfl, rfl⟩
    · exact ⟨rfl, rfl⟩
  rw [e.1] at h1
  rw [e.2] at h2
  exact ⟨h1, h2⟩
theorem IN_fs {t t' : Nt} {s : Sn} (h : IN (s.at t)) (he : t'.ed = t.ed) (h1 : ∀ w, t'.f w < 7) (h2 : ∀ w, t'.s w < 7) (h3 : ∀ w, w < s.nW → t'.f w = t.f w ∧ t'.s w = t.s w) : IN (s.at t') := by
  refine ⟨h.nN, h.nW, h.nd, ?_, fun k hk => ?_, h.wr, h1, h2, fun w hw => ?_, h.cb, h.few⟩
  · show t'.ed < 2 ^ s.nN
    rw [he]; exact h.ed
  · have hk' : t'.ed.testBit k = true := hk
    rw [he] at hk'
    exact h.edn k hk'
  · have hl : w < s.nW := bit_lt (A := s.wr) h.wr hw
    show s.nd.testBit (t'.f w) = true ∧ s.nd.testBit (t'.s w) = true
    rw [(h3 w hl).1, (h3 w hl).2]
    exact h.wf w hw
section mv
variable {N : Nat} {σ τ : Wd} {t : Nt}
theorem RT_move (h : RT σ τ t) {M : Mv} (g : GM t M) : ∃ m, m ≤ 18 ∧ σ.1 28 9 = nI m ∧ τ.1 0 10 = nI m ∧ ∀ σ' τ', CF t M m σ σ' → DN t (t.app M) m τ τ' → RT σ' τ' (t.app M) := by
  obtain ⟨h1, h2, i, h4, ⟨mE, a1, a2, a3, a4, a5⟩, m, sn, k1, k2, k3, k4⟩ := id h
  have hw := i.nW
  have gg := g
  obtain ⟨G1, G2, G3, G4, G5⟩ := g.app i
  have low : ∀ d j, j + d + 1 = m → (sn j).nW ≤ t.nW := fun d => by
    induction d with
    | zero =>
      intro j hj
      obtain ⟨-, -, -, -, b5⟩ := k4 j (by omega)
      rw [if_neg (by omega)] at b5
      exact b5.1
    | succ d ih =>
      intro j hj
      obtain ⟨-, -, -, -, b5⟩ := k4 j (by omega)
      rw [if_pos (by omega)] at b5
      exact Nat.le_trans b5.1 (ih (j + 1) (by omega))
  obtain ⟨A1, A2, A3, A4, A5, A6, A7, A8, A9, A10, A11⟩ := g
  refine ⟨m, by omega, k1, k2, fun σ' τ' hc hd => ?_⟩
  obtain ⟨c1, c2, c3, c4, c5, c6, c7⟩ := hc
  obtain ⟨d1, d2, d3, d4, d5, d6, d7, d8⟩ := hd
  have hed : ∀ k, (t.app M).ed.testBit k = t.ed.testBit k := fun k => by rw [G3]
  have hnN : t.ed.testBit t.nN = false := Nat.testBit_lt_two_pow i.ed
  have v4 : ∀ j, j < 7 → τ'.1 4 j = τ.1 4 j := fun j hj => by
    by_cases e : j = t.nN
    · subst e
      rcases d7 with q | q
      · exact q
      · rw [q, (h4 _ hj).2.2 hnN]
    · exact d6 j e
  -- the step from the network ahead of the move
  have stp : ∀ sm : Sn, sm.nW = t.nW → sm.c = t.c → KStp σ' m sm (t.app M).nW (t.app M).c := fun sm q1 q2 => by
    unfold KStp
    refine ⟨by rw [q1, G2]; omega, ?_⟩
    rw [q1, q2]
    cases hch : M.ch with
    | none =>
      refine Or.inl ⟨c4.1 hch, fun w hw => ?_⟩
      rw [G5 w hw, hch]; rfl
    | some x =>
      have hx := bit_lt i.wr (A4 x hch).1
      refine Or.inr ⟨x.1, hx, (c4.2 x hch).1, (c4.2 x hch).2, fun w hw hne => ?_⟩
      rw [G5 w hw, hch]
      exact (upN_o hne).symm
  have old : ∀ j, j < m → ∀ s nW c, KStp σ j s nW c → KStp σ' j s nW c := fun j hj s nW c q => by
    unfold KStp at *
    rw [c5 38 j (by omega) (by omega) (by omega), c5 39 j (by omega) (by omega) (by omega)]; exact q
  let sn' : Nat → Sn := fun j => if j = m then ((t.nd, t.wr, t.nN, t.nW), t.c) else sn j
  have sm : sn' m = ((t.nd, t.wr, t.nN, t.nW), t.c) := if_pos rfl
  have so : ∀ j, j ≠ m → sn' j = sn j := fun j hj => if_neg hj
  refine ⟨c1, d1, G1, fun x hx => ⟨?_, ?_, ?_⟩, ⟨mE, ?_, ?_, ?_, ?_, ?_⟩, m + 1, sn', c2, d2, ?_, fun j hj => ?_⟩
  · rw [c6 57 (by omega), v4 x hx]; exact (h4 x hx).1
  · rw [v4 x hx]; exact (h4 x hx).2.1
  · rw [v4 x hx, hed]; exact (h4 x hx).2.2
  · rw [c6 40 (by omega)]; exact a1
  · rw [d5 15 (by omega)]; exact a2
  · intro k hk
    rw [hed]; exact a3 k hk
  · rw [d5 14 (by omega)]; exact a4
  · intro x y hxy hy hx' hy'
    rw [c7, d8]; exact a5 x y hxy hy hx' hy'
  · rw [G2]; omega
  · by_cases e : j = m
    · subst e
      rw [sm]
      refine ⟨k3, ?_, c3, ?_, ?_⟩
      · have it : IN (Sn.at ((t.nd, t.wr, t.nN, t.nW), t.c) t) := i
        exact IN_fs it G3 G1.fb G1.sb (fun w hw => app_fs i gg hw)
      · rw [G3]; exact d3
      · rw [if_neg (by omega)]
        exact stp _ rfl rfl
    · rw [so j e]
      obtain ⟨b1, b2, b3, b4, b5⟩ := k4 j (by omega)
      refine ⟨b1, ?_, ?_, ?_, ?_⟩
      · have hle := low (m - 1 - j) j (by omega)
        exact IN_fs b2 G3 G1.fb G1.sb (fun w hw => app_fs i gg (by omega))
      · rw [c5 34 j (by omega) (by omega) e, c5 35 j (by omega) (by omega) e, c5 36 j (by omega) (by omega) e, c5 37 j (by omega) (by omega) e]; exact b3
      · rw [G3]
        obtain ⟨y1, y2, y3, y4, y5, y6⟩ := b4
        refine ⟨?_, ?_, ?_, ?_, ?_, fun w hw => ?_⟩
        · rw [d4 _ (by omega)]; exact y1
        · rw [d4 _ (by omega)]; exact y2
        · rw [d4 _ (by omega)]; exact y3
        · rw [d4 _ (by omega)]; exact y4
        · rw [d4 _ (by omega)]; exact y5
        · rw [d4 _ (by omega)]; exact y6 w hw
      · rw [if_pos (by omega)]
        by_cases q : j + 1 < m
        · rw [if_pos q] at b5
          rw [so (j + 1) (by omega)]
          exact old j (by omega) _ _ _ b5
        · rw [if_neg q] at b5
          have ej : j + 1 = m := by omega
          rw [ej, sm]
          exact old j (by omega) _ _ _ b5
end mv
