/-! NODE AND WIRE. -/
section adds2
variable {N : Nat} {σ τ : Wd} {t : Nt}
theorem v_addWire (r : RN σ t) (i : IN t) (h : t.nW < 20) (x y c : Nat) : ∃ σ', f_X4_addWire N σ (nI x) (nI y) (nI c) = some (nI t.nW, σ') ∧ RN σ' (t.addW x y c) ∧ (∀ p, p = 0 ∨ 4 < p → σ'.1 p = σ.1 p) ∧ σ'.2 = σ.2 := by
  have h7 := i.wr20
  unfold f_X4_addWire
  simp (disch := omega) only [gI, wI, r.nW, lt0, if_false, lq20, nI_ltI, if_pos, nI_1, v_setOf, bP_s, sI_slot, r.wr, fa_or, aI_n]
  refine ⟨_, rfl, ⟨?_, ?_, ?_, ?_, ?_, fun w hw => ?_, fun w hw => ?_, fun w hw => ?_⟩, fun p hp => ?_, rfl⟩
  · rw [sI_place (by omega), sI_place (by omega), sI_place (by omega), sI_slot (by omega), sI_slot (by omega)]; exact r.nd
  · rw [sI_place (by omega), sI_place (by omega), sI_place (by omega), sI_slot (by omega), sI_slot (by omega)]; exact r.ed
  · rw [sI_place (by omega), sI_place (by omega), sI_place (by omega)]; exact sI_same _ _ _ _
  · rw [sI_place (by omega), sI_place (by omega), sI_place (by omega), sI_slot (by omega), sI_slot (by omega)]; exact r.nN
  · rw [sI_place (by omega), sI_place (by omega), sI_place (by omega), sI_slot (by omega)]; exact sI_same _ _ _ _
  · show _ = nI (upN t.f t.nW x w)
    by_cases e : w = t.nW
    · subst e; rw [sI_place (by omega), sI_place (by omega), sI_same, upN_s]
    · rw [sI_place (by omega), sI_place (by omega), sI_slot e, upN_o e, sI_place (by omega), sI_place (by omega)]; exact r.f w hw
  · show _ = nI (upN t.s t.nW y w)
    by_cases e : w = t.nW
    · subst e; rw [sI_place (by omega), sI_same, upN_s]
    · rw [sI_place (by omega), sI_slot e, upN_o e, sI_place (by omega), sI_place (by omega), sI_place (by omega)]; exact r.s w hw
  · show _ = nI (upN t.c t.nW c w)
    have hw' : w < t.nW + 1 := hw
    by_cases e : w = t.nW
    · subst e; rw [sI_same, upN_s]
    · rw [sI_slot e, upN_o e, sI_place (by omega), sI_place (by omega), sI_place (by omega), sI_place (by omega)]; exact r.c w (by omega)
  · rw [sI_place (by omega), sI_place (by omega), sI_place (by omega), sI_place (by omega), sI_place (by omega)]
/-- the code of node's exception -/
def m31 (q : Nat) : Nat := if q = 3 then 1 else q
end adds2
