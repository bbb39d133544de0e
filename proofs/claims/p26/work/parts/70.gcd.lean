/-! FRACTIONS IN LOWEST TERMS: the class's greatest divisor and the reference's are one. -/
theorem lN_t {n : Nat} (h : n < 2 ^ 63) : (lN n).toInt = (n : Int) := Int64.toInt_ofNat_of_lt h
theorem lN_0 : (0 : Int64) = lN 0 := rfl
theorem lN_eq0 {n : Nat} (h : n < 2 ^ 63) : (lN n = 0) ↔ n = 0 := by
  rw [← Int64.toInt_inj, lN_t h, show (0 : Int64).toInt = 0 from rfl]; omega
theorem lN_div {a b : Nat} (ha : a < 2 ^ 63) (hb : b < 2 ^ 63) (h0 : 0 < b) : lN a / lN b = lN (a / b) := by
  have hd : a / b ≤ a := Nat.div_le_self _ _
  apply Int64.toInt_inj.mp
  rw [lg_ldiv_nonneg (by rw [lN_t ha]; omega) (by rw [lN_t hb]; omega), lN_t ha, lN_t hb, lN_t (by omega)]
  rfl
theorem lN_mod {a b : Nat} (ha : a < 2 ^ 63) (hb : b < 2 ^ 63) (h0 : 0 < b) : lN a - lN a / lN b * lN b = lN (a % b) := by
  rw [lN_div ha hb h0, lN_mul, lN_sub (Nat.div_mul_le_self a b)]
  congr 1
  have := Nat.div_add_mod a b
  rw [Nat.mul_comm] at this
  omega
theorem gcd_step {a b : Nat} : Nat.gcd a b = Nat.gcd b (a % b) := by rw [Nat.gcd_comm a b, Nat.gcd_rec b a, Nat.gcd_comm]
theorem v_gd9 {ρ : Type} {N : Nat} {K : Int64 → Option ρ} : ∀ (k a b n x : Nat), b < 2 ^ k → k ≤ 63 → a < 2 ^ 63 → 2 * k + 1 ≤ n → x + 2 * k + 1 ≤ 1000 → fl_X7_greatestDivisor_9 N K n (lN a) (lN b) (nI x) = K (lN (Nat.gcd a b)) := by
  have hz : ∀ a n x : Nat, x < 1000 → fl_X7_greatestDivisor_9 N K (n + 1) (lN a) (lN 0) (nI x) = K (lN (Nat.gcd a 0)) := fun a n x hx => by
    rw [fl_X7_greatestDivisor_9, show (1000 : Int32) = nI 1000 from rfl, if_neg (nI_ge hx (by omega)), if_pos (by decide), Nat.gcd_zero_right]
  have hs : ∀ a b n x : Nat, x < 1000 → 0 < b → a < 2 ^ 63 → b < 2 ^ 63 → fl_X7_greatestDivisor_9 N K (n + 1) (lN a) (lN b) (nI x) = fl_X7_greatestDivisor_9 N K n (lN b) (lN (a % b)) (nI (x + 1)) := fun a b n x hx h0 ha hb => by
    have e1 : ¬ lN b = 0 := fun q => by rw [lN_eq0 hb] at q; omega
    rw [fl_X7_greatestDivisor_9, show (1000 : Int32) = nI 1000 from rfl, if_neg (nI_ge hx (by omega)), if_neg (by rw [lg_cmp_eq]; exact e1)]
    unfold mL
    rw [if_neg e1, lN_mod ha hb h0, nI_1]
  intro k
  induction k with
  | zero =>
    intro a b n x hb _ ha hn hx
    obtain ⟨n, rfl⟩ : ∃ m, n = m + 1 := ⟨n - 1, by omega⟩
    have : b = 0 := by simpa using hb
    subst this
    exact hz a n x (by omega)
  | succ k ih =>
    intro a b n x hb hk ha hn hx
    obtain ⟨n, rfl⟩ : ∃ m, n = m + 2 := ⟨n - 2, by omega⟩
    have hp : 2 ^ (k + 1) = 2 * 2 ^ k := by rw [Nat.pow_succ]; omega
    have h63 : 2 ^ (k + 1) ≤ 2 ^ 63 := Nat.pow_le_pow_right (by decide) hk
    by_cases h0 : b = 0
    · subst h0
      exact hz a (n + 1) x (by omega)
    · have hr : a % b < b := Nat.mod_lt _ (by omega)
      rw [hs a b (n + 1) x (by omega) (by omega) ha (by omega), gcd_step]
      by_cases hlt : a % b < 2 ^ k
      · exact ih b (a % b) (n + 1) (x + 1) hlt (by omega) (by omega) (by omega) (by omega)
      · have hrr : b % (a % b) < 2 ^ k := by
          have h1 : b % (a % b) = (b - a % b) % (a % b) := Nat.mod_eq_sub_mod (by omega)
          have h2 : (b - a % b) % (a % b) ≤ b - a % b := Nat.mod_le _ _
          omega
        rw [hs b (a % b) n (x + 1) (by omega) (by have := Nat.two_pow_pos k; omega) (by omega) (by omega), gcd_step]
        exact ih (a % b) (b % (a % b)) n (x + 2) hrr (by omega) (by omega) (by omega) (by omega)
/-- signed longs -/
def lZ (u : Int) : Int64 := Int64.ofInt u
theorem lZ_N (n : Nat) : lZ (n : Int) = lN n := rfl
theorem lZ_t {u : Int} (h1 : -2 ^ 63 < u) (h2 : u < 2 ^ 63) : (lZ u).toInt = u := Int64.toInt_ofInt_of_le (by omega) (by omega)
theorem lZ_add (u v : Int) : lZ u + lZ v = lZ (u + v) := (Int64.ofInt_add u v).symm
theorem lZ_mul (u v : Int) : lZ u * lZ v = lZ (u * v) := (Int64.ofInt_mul u v).symm
theorem lZ_sub (u v : Int) : lZ u - lZ v = lZ (u - v) := (Int64.ofInt_sub u v).symm
theorem lZ_neg (u : Int) : -lZ u = lZ (-u) := (Int64.ofInt_neg u).symm
/-- a part of a fraction in lowest terms -/
def prt (u : Int) (l : Nat) (b : Int32) : Int64 := if l = 0 then 0 else (if b = 0 then lZ u else lN l) / lN (Nat.gcd l u.natAbs)
theorem abs_lZ {u : Int} (h1 : -2 ^ 63 < u) (h2 : u < 2 ^ 63) : (if 0 < lZ u then lZ u else -lZ u) = lN u.natAbs := by
  by_cases h : 0 < u
  · rw [if_pos (by rw [Int64.lt_iff_toInt_lt, lZ_t h1 h2]; exact h), ← lZ_N]
    congr 1; omega
  · rw [if_neg (by rw [Int64.lt_iff_toInt_lt, lZ_t h1 h2]; exact h), lZ_neg, ← lZ_N]
    congr 1; omega
theorem v_partOf {N : Nat} (hN : 200 ≤ N) {u : Int} {l : Nat} (h1 : -2 ^ 63 < u) (h2 : u < 2 ^ 63) (hl : l < 2 ^ 63) (b : Int32) : f_X7_partOf N (lZ u) (lN l) b = some (prt u l b) := by
  unfold f_X7_partOf f_X7_greatestDivisor
  simp only [lL, absL]
  rw [abs_lZ h1 h2, show (0 : Int32) = nI 0 from rfl, v_gd9 63 l u.natAbs N 0 (by omega) (by omega) hl (by omega) (by omega), bP_s]
  unfold prt
  have hg : Nat.gcd l u.natAbs < 2 ^ 63 := by
    by_cases h0 : l = 0
    · subst h0; rw [Nat.gcd_zero_left]; omega
    · exact Nat.lt_of_le_of_lt (Nat.gcd_le_left _ (by omega)) hl
  by_cases h0 : l = 0
  · subst h0
    rw [if_pos (by decide), if_pos rfl]
  · have hgp : 0 < Nat.gcd l u.natAbs := Nat.gcd_pos_of_pos_left _ (by omega)
    have e1 : ¬ lg_cmp (lN l) 0 = nI 0 := fun q => by
      rw [show nI 0 = 0 from rfl, lg_cmp_eq, lN_eq0 hl] at q; omega
    have e2 : ¬ lN (Nat.gcd l u.natAbs) = 0 := fun q => by rw [lN_eq0 hg] at q; omega
    have e3 : ¬ lg_cmp (lN (Nat.gcd l u.natAbs)) 0 = nI 0 := fun q => by
      rw [show nI 0 = 0 from rfl, lg_cmp_eq] at q; exact e2 q
    rw [if_neg e1, if_neg e3, if_neg h0]
    unfold dL
    rw [if_neg e2, if_neg e2]
    by_cases hb : b = 0
    · rw [if_pos (show b = nI 0 from hb), if_pos hb]
    · rw [if_neg (show ¬ b = nI 0 from hb), if_neg hb]
