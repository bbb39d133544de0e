/-! MOVES: both together. -/
/-- what the class's cells show of a move that was done -/
def CF (t : Nt) (M : Mv) (m : Nat) (σ σ' : Wd) : Prop := RN σ' (t.app M) ∧ σ'.1 28 9 = nI (m + 1) ∧ (σ'.1 34 m = nI t.nd ∧ σ'.1 35 m = nI t.wr ∧ σ'.1 36 m = nI t.nN ∧ σ'.1 37 m = nI t.nW) ∧ ((M.ch = none → σ'.1 38 m = -1) ∧ ∀ x, M.ch = some x → σ'.1 38 m = nI x.1 ∧ σ'.1 39 m = nI (t.c x.1)) ∧ (∀ p j, 34 ≤ p → p ≤ 39 → j ≠ m → σ'.1 p j = σ.1 p j) ∧ (∀ p, 39 < p → σ'.1 p = σ.1 p) ∧ σ'.2 = σ.2
theorem sI_id {σ : Wd} {q k : Nat} {v : Int32} (h : σ.1 q k = v) : sI σ q k v = σ := by
  refine Prod.ext (funext fun p => ?_) rfl
  by_cases e : p = q
  · subst e
    funext j
    by_cases ej : j = k
    · subst ej; rw [sI_same, h]
    · rw [sI_slot ej]
  · rw [sI_place e]
theorem addWs_fs : ∀ (L : List (Nat × Nat × Nat)) (u : Nt) (w : Nat), w < u.nW → (addWs u L).f w = u.f w ∧ (addWs u L).s w = u.s w
  | [], u, w, _ => ⟨rfl, rfl⟩
  | e :: L, u, w, h => by
    have hnW : (u.addW e.1 e.2.1 e.2.2).nW = u.nW + 1 := rfl
    obtain ⟨h1, h2⟩ := addWs_fs L (u.addW e.1 e.2.1 e.2.2) w (by rw [hnW]; omega)
    refine ⟨?_, ?_⟩
    · show (addWs (u.addW e.1 e.2.1 e.2.2) L).f w = _
      rw [h1]; exact upN_o (by omega)
    · show (addWs (u.addW e.1 e.2.1 e.2.2) L).s w = _
      rw [h2]; exact upN_o (by omega)
theorem app_fs {t : Nt} {M : Mv} (i : IN t) (g : GM t M) {w : Nat} (h : w < t.nW) : (t.app M).f w = t.f w ∧ (t.app M).s w = t.s w := by
  obtain ⟨-, b2, -⟩ := g.base i
  obtain ⟨h1, h2⟩ := addWs_fs M.L (t.base M) w (by rw [b2]; exact h)
  have e : (t.base M).f = t.f ∧ (t.base M).s = t.s := by
    unfold Nt.base
    split
    · exact ⟨rfl, rfl⟩
    · exact ⟨rfl, rfl⟩
  rw [e.1] at h1
  rw [e.2] at h2
  exact ⟨h1, h2⟩
theorem IN_fs {t t' : Nt} {s : Sn} (h : IN (s.at t)) (he : t'.ed = t.ed) (h1 : ∀ w, t'.f w < 7) (h2 : ∀ w, t'.s w < 7) (h3 : ∀ w, w < s.nW → t'.f w = t.f w ∧ t'.s w = t.s w) : IN (s.at t') := by
  refine ⟨h.nN, h.nW, h.nd, ?_, fun k hk => ?_, h.wr, h1, h2, fun w hw => ?_, h.cb, h.few⟩
  · show t'.ed < 2 ^ s.nN
    rw [he]; exact h.ed
  · have hk' : t'.ed.testBit k = true := hk
    rw [he] at hk'
    exact h.edn k hk'
  · have hl : w < s.nW := bit_lt (A := s.wr) h.wr hw
    show s.nd.testBit (t'.f w) = true ∧ s.nd.testBit (t'.s w) = true
    rw [(h3 w hl).1, (h3 w hl).2]
    exact h.wf w hw
section mv
variable {N : Nat} {σ τ : Wd} {t : Nt}
end mv
