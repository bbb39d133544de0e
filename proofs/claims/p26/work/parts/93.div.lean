/-! Division and what is left of it. -/
theorem dIn {ρ : Type} {a b : Nat} {K : Int32 → Option ρ} (ha : a < 2 ^ 31) (h0 : 0 < b) (hb : b < 2 ^ 31) : dI (nI a) (nI b) K = K (nI (a / b)) := by
  unfold dI
  rw [if_neg (fun e => by rw [lq0, nI_eq hb (by omega)] at e; omega), pk_div ha h0 hb]
theorem mIn {ρ : Type} {a b : Nat} {K : Int32 → Option ρ} (ha : a < 2 ^ 31) (h0 : 0 < b) (hb : b < 2 ^ 31) : mI (nI a) (nI b) K = K (nI (a % b)) := by
  unfold mI
  rw [if_neg (fun e => by rw [lq0, nI_eq hb (by omega)] at e; omega), pk_rem ha h0 hb]
