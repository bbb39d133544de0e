/-! THE BEGINNING: empty on both sides. -/
def t0 : Nt := Nt.mk 0 0 0 0 0 (fun _ => 0) (fun _ => 0) (fun _ => 0)
theorem no_bit {i : Nat} (h : (0 : Nat).testBit i = true) : False := by simp at h
theorem IN_t0 : IN t0 :=
  ⟨by decide, by decide, by decide, by decide, fun i h => absurd h (fun z => no_bit z), by decide, fun _ => by show 0 < 7; omega, fun _ => by show 0 < 7; omega, fun w h => absurd h (fun z => no_bit z), fun w h => absurd h (fun z => no_bit z), by decide⟩
theorem RT_z0 : RT z0 z0 t0 := by
  refine ⟨⟨rfl, rfl, rfl, rfl, rfl, fun _ _ => rfl, fun _ _ => rfl, fun _ _ => rfl⟩, ⟨rfl, rfl, rfl, rfl, rfl, fun _ _ => rfl, fun _ _ => rfl, fun _ _ => rfl⟩, IN_t0, fun i _ => ⟨rfl, ⟨show (-99 : Int) ≤ (0 : Int32).toInt by decide, show (0 : Int32).toInt ≤ 99 by decide⟩, fun _ => rfl⟩, ⟨0, rfl, rfl, fun i h => absurd h (fun z => no_bit z), Or.inl ⟨rfl, rfl⟩, fun i j _ _ h => absurd h (fun z => no_bit z)⟩, 0, fun _ => ((0, 0, 0, 0), fun _ => 0), rfl, rfl, by decide, fun i h => absurd h (Nat.not_lt_zero i)⟩
