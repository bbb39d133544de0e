/-! THE BEGINNING: empty on both sides. -/
def t0 : Nt := Nt.mk 0 0 0 0 0 (fun _ => 0) (fun _ => 0) (fun _ => 0)
theorem no_bit {i : Nat} (h : (0 : Nat).testBit i = true) : False := by simp at h
theorem IN_t0 : IN t0 :=
  ⟨by decide, by decide, by decide, by decide, fun i h => absurd h (fun z => no_bit z), by decide, fun _ => by show 0 < 7; omega, fun _ => by show 0 < 7; omega, fun w h => absurd h (fun z => no_bit z), fun w h => absurd h (fun z => no_bit z), by decide⟩
