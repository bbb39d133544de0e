/-! WIRE. -/
section wire
variable {N : Nat} {σ τ : Wd} {t : Nt}
/-- an int from 1 to 60 -/
theorem cond_cases (x : Int32) : (x < 1 ∨ 60 < x) ∨ ∃ c, 1 ≤ c ∧ c ≤ 60 ∧ x = nI c := by
  by_cases h1 : x < 1
  · exact Or.inl (Or.inl h1)
  · by_cases h2 : 60 < x
    · exact Or.inl (Or.inr h2)
    · right
      have h0 : ¬ x < 0 := fun z => h1 (by rw [Int32.lt_iff_toInt_lt] at *; rw [show (0 : Int32).toInt = 0 from rfl] at z; rw [show (1 : Int32).toInt = 1 from rfl]; omega)
      obtain ⟨c, hc, rfl⟩ := nI_of h0
      refine ⟨c, ?_, ?_, rfl⟩
      · exact Nat.le_of_not_lt (fun z => h1 (nI_lt (b := 1) z (by omega)))
      · exact Nat.le_of_not_lt (fun z => h2 (nI_lt (a := 60) z hc))
theorem v_isCond (x : Int32) : f_X7_isConductance N x = some (bI (!(decide (x < 1)) && !(decide (60 < x)))) := by
  unfold f_X7_isConductance
  by_cases h1 : x < 1
  · rw [if_pos h1, decide_eq_true h1]; rfl
  · rw [if_neg h1, decide_eq_false h1]
    by_cases h2 : 60 < x
    · rw [if_pos h2, decide_eq_true h2]; rfl
    · rw [if_neg h2, decide_eq_false h2]; rfl
end wire
