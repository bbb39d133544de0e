/-! UNDO. -/
section undo
variable {N : Nat} {σ τ : Wd} {t : Nt}
theorem v_setCond {w : Nat} {v : Int32} (hw : w < 20) : f_X4_setConductance N σ (nI w) v = some (sI σ 4 w v) := by
  unfold f_X4_setConductance
  simp (disch := omega) only [lt0, if_false, lq20, nI_leI, if_neg, aI_n]
theorem v_setCond1 {v : Int32} : f_X4_setConductance N σ (-1) v = some σ := by
  unfold f_X4_setConductance
  rw [if_pos (by decide)]
end undo
