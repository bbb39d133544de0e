/-! Whether two nodes are joined. -/
theorem fsP_congr {p q : Nat → Bool} : ∀ {d k : Nat}, (∀ i, k ≤ i → i < k + d → p i = q i) → fsP p d k = fsP q d k
  | 0, _, _ => rfl
  | d + 1, k, h => by
    unfold fsP
    rw [h k (Nat.le_refl _) (by omega), fsP_congr (fun i h1 h2 => h i (by omega) (by omega))]
/-- whether two nodes are joined -/
def jnd (t : Nt) (a b : Nat) : Bool := !al (fun w => !btw t a b w) 20 0
theorem jnd_iff {t : Nt} {a b : Nat} : jnd t a b = true ↔ ∃ w, w < 20 ∧ btw t a b w = true := by
  unfold jnd
  rw [Bool.not_eq_true', ← Bool.not_eq_true, al_iff]
  constructor
  · intro h
    refine Classical.byContradiction fun q => h (fun i _ hi => ?_)
    cases hb : btw t a b i
    · rfl
    · exact absurd ⟨i, by omega, hb⟩ q
  · rintro ⟨w, h1, h2⟩ h
    have := h w (by omega) (by omega)
    rw [h2] at this
    exact absurd this (by decide)
theorem jnd_fsP {t : Nt} {a b : Nat} : jnd t a b = true ↔ fsP (btw t a b) 20 0 < 20 := by
  obtain ⟨h1, h2, h3, h4⟩ := fsP_spec (btw t a b) 20 0
  rw [jnd_iff]
  constructor
  · rintro ⟨w, hw, hb⟩
    refine Classical.byContradiction fun q => ?_
    rw [h3 w (by omega) (by omega)] at hb
    exact absurd hb (by decide)
  · intro h
    exact ⟨_, h, h4 (by omega)⟩
theorem oI_no {t : Nt} {a b : Nat} (h : jnd t a b = false) : oI (fsP (btw t a b) 20 0) 20 = -1 := if_neg (fun z => by rw [jnd_fsP.mpr z] at h; exact absurd h (by decide))
theorem oI_yes {t : Nt} {a b : Nat} (h : jnd t a b = true) : oI (fsP (btw t a b) 20 0) 20 = nI (fsP (btw t a b) 20 0) := if_pos (jnd_fsP.mp h)
section digits
variable {N : Nat} {σ τ : Wd} {t : Nt}
theorem v_lb0 (r : RN σ t) (i : IN t) (hN : 100 ≤ N) {a b : Nat} (ha : a < 7) (hb : b < 7) : f_X4_lowestBetween N σ (nI a) (nI b) (-1) = some (oI (fsP (btw t a b) 20 0) 20) := by
  rw [v_lowestBetween r i hN ha hb, fsP_congr (q := btw t a b) (fun w _ hw => by
    rw [decide_eq_false (by rw [nI_m1 (by omega)]; exact id)]; simp)]
end digits
