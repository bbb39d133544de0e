/-! NUMBERS: pasted families of the kit's NUMBERS and COUNTS, and rows of my own on reads, writes, sets as numbers. -/
theorem fa_and (a b : Nat) : nI a &&& nI b = nI (a &&& b) := by
  apply Int32.toBitVec_inj.1
  show BitVec.ofNat 32 a &&& BitVec.ofNat 32 b = BitVec.ofNat 32 (a &&& b)
  apply BitVec.eq_of_getLsbD_eq
  intro i hi
  simp [hi]
theorem fa_or (a b : Nat) : nI a ||| nI b = nI (a ||| b) := by
  apply Int32.toBitVec_inj.1
  show BitVec.ofNat 32 a ||| BitVec.ofNat 32 b = BitVec.ofNat 32 (a ||| b)
  apply BitVec.eq_of_getLsbD_eq
  intro i hi
  simp [hi]
def fb_ct (p : Nat → Bool) : Nat → Nat
  | 0 => 0
  | n + 1 => fb_ct p n + (if p n then 1 else 0)
theorem fb_ct_succ (p : Nat → Bool) (n : Nat) : fb_ct p (n + 1) = fb_ct p n + (if p n then 1 else 0) := rfl
theorem fb_ct_le (p : Nat → Bool) : ∀ n, fb_ct p n ≤ n
  | 0 => Nat.le_refl _
  | n + 1 => by
    have h := fb_ct_le p n
    rw [fb_ct_succ]
    split <;> omega
theorem fb_ct_step (p : Nat → Bool) (m : Nat) : ∀ n, fb_ct p m ≤ fb_ct p (m + n)
  | 0 => Nat.le_refl _
  | n + 1 => by
    have h := fb_ct_step p m n
    show fb_ct p m ≤ fb_ct p (m + n + 1)
    rw [fb_ct_succ]
    omega
theorem fb_ct_mono (p : Nat → Bool) {m n : Nat} (h : m ≤ n) : fb_ct p m ≤ fb_ct p n := by
  have := fb_ct_step p m (n - m)
  rwa [Nat.add_sub_cancel' h] at this
theorem fb_ct_cong {p q : Nat → Bool} : ∀ {n : Nat}, (∀ k, k < n → p k = q k) → fb_ct p n = fb_ct q n
  | 0, _ => rfl
  | n + 1, h => by
    rw [fb_ct_succ, fb_ct_succ, fb_ct_cong (fun k hk => h k (by omega)), h n (by omega)]
theorem fb_ct_sub {p q : Nat → Bool} : ∀ {n : Nat}, (∀ k, k < n → p k = true → q k = true) → fb_ct p n ≤ fb_ct q n
  | 0, _ => Nat.le_refl _
  | n + 1, h => by
    have h1 := fb_ct_sub (n := n) (p := p) (q := q) (fun k hk => h k (by omega))
    have h2 := h n (by omega)
    rw [fb_ct_succ, fb_ct_succ]
    cases hp : p n <;> cases hq : q n <;> simp_all <;> omega
theorem fb_ct_split (p : Nat → Bool) (m : Nat) : ∀ n, fb_ct p (m + n) = fb_ct p m + fb_ct (fun k => p (m + k)) n
  | 0 => rfl
  | n + 1 => by
    have h := fb_ct_split p m n
    show fb_ct p (m + n + 1) = _
    rw [fb_ct_succ, fb_ct_succ, h, Nat.add_assoc]
theorem fb_ct_zero {p : Nat → Bool} : ∀ {n : Nat}, fb_ct p n = 0 ↔ ∀ k, k < n → p k = false
  | 0 => ⟨fun _ k hk => absurd hk (Nat.not_lt_zero k), fun _ => rfl⟩
  | n + 1 => by
    have h := fb_ct_zero (p := p) (n := n)
    rw [fb_ct_succ]
    constructor
    · intro e k hk
      have e1 : fb_ct p n = 0 := by omega
      rcases Nat.lt_or_ge k n with q | q
      · exact h.mp e1 k q
      · have ek : k = n := by omega
        subst ek
        cases hp : p k
        · rfl
        · simp [hp] at e
    · intro a
      rw [h.mpr (fun k hk => a k (by omega)), a n (by omega)]
      rfl
theorem fb_lN_inj {a b : Nat} (ha : a < 2 ^ 63) (hb : b < 2 ^ 63) : lN a = lN b ↔ a = b := by
  constructor
  · intro h
    have h1 : (BitVec.ofNat 64 a).toNat = (BitVec.ofNat 64 b).toNat := congrArg (fun x : Int64 => x.toBitVec.toNat) h
    rw [BitVec.toNat_ofNat, BitVec.toNat_ofNat, Nat.mod_eq_of_lt (by omega), Nat.mod_eq_of_lt (by omega)] at h1
    exact h1
  · rintro rfl; rfl
theorem fb_bit_nat (n j : Nat) : n &&& 2 ^ j = 0 ↔ n.testBit j = false := by
  constructor
  · intro h
    have h1 : (n &&& 2 ^ j).testBit j = false := by rw [h]; simp
    rw [Nat.testBit_and] at h1
    simpa using h1
  · intro h
    apply Nat.eq_of_testBit_eq
    intro i
    rw [Nat.testBit_and]
    by_cases hi : j = i
    · subst hi; simp [h]
    · first | (simp [Nat.testBit_two_pow, hi]; done) | (simp [Nat.testBit_two_pow_of_ne hi]; done)
/-- a bit set, a bit taken off -/
theorem fb_bit_set (n j i : Nat) : (n ||| 2 ^ j).testBit i = (n.testBit i || decide (i = j)) := by
  rw [Nat.testBit_or]
  by_cases h : j = i
  · subst h; simp
  · have h2 : ¬ i = j := fun e => h e.symm
    first | (simp [Nat.testBit_two_pow, h, h2]; done) | (simp [Nat.testBit_two_pow_of_ne h, h2]; done)
theorem fa_lt (a b : Int32) : a < b ↔ a.toInt < b.toInt := Int32.lt_iff_toInt_lt
theorem fa_le (a b : Int32) : a ≤ b ↔ a.toInt ≤ b.toInt := Int32.le_iff_toInt_le
theorem fa_eq (a b : Int32) : a = b ↔ a.toInt = b.toInt := Int32.toInt_inj.symm
theorem fa_lt64 (a b : Int64) : a < b ↔ a.toInt < b.toInt := Int64.lt_iff_toInt_lt
theorem fa_le64 (a b : Int64) : a ≤ b ↔ a.toInt ≤ b.toInt := Int64.le_iff_toInt_le
theorem fa_eq64 (a b : Int64) : a = b ↔ a.toInt = b.toInt := Int64.toInt_inj.symm
theorem fb_rngL (x : Int64) : -9223372036854775808 ≤ x.toInt ∧ x.toInt < 9223372036854775808 := by
  have h1 := Int64.le_toInt x
  have h2 := Int64.toInt_lt x
  omega
theorem fb_bmodL {z : Int} (h1 : -9223372036854775808 ≤ z) (h2 : z < 9223372036854775808) : z.bmod (2 ^ 64) = z := by
  rw [Int.bmod_eq_of_le (by omega) (by omega)]
theorem fb_addL {x y : Int64} (h1 : -9223372036854775808 ≤ x.toInt + y.toInt) (h2 : x.toInt + y.toInt < 9223372036854775808) : (x + y).toInt = x.toInt + y.toInt := by
  rw [Int64.toInt_add, fb_bmodL h1 h2]
theorem fb_subL {x y : Int64} (h1 : -9223372036854775808 ≤ x.toInt - y.toInt) (h2 : x.toInt - y.toInt < 9223372036854775808) : (x - y).toInt = x.toInt - y.toInt := by
  rw [Int64.toInt_sub, fb_bmodL h1 h2]
theorem fb_mulL {x y : Int64} (h1 : -9223372036854775808 ≤ x.toInt * y.toInt) (h2 : x.toInt * y.toInt < 9223372036854775808) : (x * y).toInt = x.toInt * y.toInt := by
  rw [Int64.toInt_mul, fb_bmodL h1 h2]
/-- a boolean as an int -/
def bI (b : Bool) : Int32 := if b then 1 else 0
theorem bI_t : bI true = 1 := rfl
theorem bI_f : bI false = 0 := rfl
theorem bI_0 (b : Bool) : (bI b = 0) ↔ b = false := by cases b <;> decide
theorem bI_1 (b : Bool) : (bI b = 1) ↔ b = true := by cases b <;> decide
theorem zb_bI {ρ : Type} (b : Bool) (K : Option ρ) : zb (bI b) K = K := by cases b <;> rfl
theorem bP_s {α ρ : Type} (a : α) (K : α → Option ρ) : bP (some a) K = K a := rfl
theorem bS_s {α ω ρ : Type} (a : α) (s : ω) (K : α → ω → Option ρ) : bS (some (a, s)) K = K a s := rfl
theorem jn_e {β ρ : Type} (J : β) (B : β → Option ρ) : jn J B = B J := rfl
theorem if_bI0 {α : Type} (b : Bool) (x y : α) : (if bI b = 0 then x else y) = if b then y else x := by cases b <;> rfl
theorem if_bI1 {α : Type} (b : Bool) (x y : α) : (if bI b = 1 then x else y) = if b then x else y := by cases b <;> rfl
theorem bI_if (b : Bool) : (if b then (some (1 : Int32)) else some 0) = some (bI b) := by cases b <;> rfl
theorem bI_if' (b : Bool) : (if b then (some (0 : Int32)) else some 1) = some (bI !b) := by cases b <;> rfl
theorem inb_n {j n : Nat} (h : j < n) (hn : n < 2 ^ 31) : inb (nI j) n = true := by
  have h1 : ¬ nI j < 0 := nI_pos (by omega)
  simp only [inb, nI_clamp (show j < 2 ^ 31 by omega), h1, h, decide_true, decide_false, Bool.not_false, Bool.and_self]
theorem rI_n {ρ : Type} {σ : Wd} {q n j : Nat} {K : Int32 → Option ρ} (h : j < n) (hn : n < 2 ^ 31) : rI σ q n (nI j) K = K (σ.1 q j) := by
  unfold rI; rw [if_pos (inb_n h hn), nI_clamp (by omega)]
theorem rL_n {ρ : Type} {σ : Wd} {q n j : Nat} {K : Int64 → Option ρ} (h : j < n) (hn : n < 2 ^ 31) : rL σ q n (nI j) K = K (σ.2 q j) := by
  unfold rL; rw [if_pos (inb_n h hn), nI_clamp (by omega)]
theorem aI_n {ρ : Type} {σ : Wd} {q n j : Nat} {v : Int32} {K : Wd → Option ρ} (h : j < n) (hn : n < 2 ^ 31) : aI σ q n (nI j) v K = K (sI σ q j v) := by
  unfold aI; rw [if_pos (inb_n h hn), nI_clamp (by omega)]
theorem aL_n {ρ : Type} {σ : Wd} {q n j : Nat} {v : Int64} {K : Wd → Option ρ} (h : j < n) (hn : n < 2 ^ 31) : aL σ q n (nI j) v K = K (sL σ q j v) := by
  unfold aL; rw [if_pos (inb_n h hn), nI_clamp (by omega)]
theorem rR_n {ρ : Type} {q n j : Nat} {K : Nat → Option ρ} (h : j < n) (hn : n < 2 ^ 31) : rR q n (nI j) K = K (q + j) := by
  unfold rR; rw [if_pos (inb_n h hn), nI_clamp (by omega)]
theorem sI_same (σ : Wd) (q k : Nat) (v : Int32) : (sI σ q k v).1 q k = v := by
  show (if q = q then upd (σ.1 q) k v else _) k = v
  rw [if_pos rfl]; exact if_pos rfl
theorem sI_slot {σ : Wd} {q k j : Nat} {v : Int32} (h : j ≠ k) : (sI σ q k v).1 q j = σ.1 q j := by
  show (if q = q then upd (σ.1 q) k v else _) j = _
  rw [if_pos rfl]; exact if_neg h
theorem sI_place {σ : Wd} {q p k : Nat} {v : Int32} (h : p ≠ q) : (sI σ q k v).1 p = σ.1 p := if_neg h
theorem sI_2 (σ : Wd) (q k : Nat) (v : Int32) : (sI σ q k v).2 = σ.2 := rfl
theorem sL_1 (σ : Wd) (q k : Nat) (v : Int64) : (sL σ q k v).1 = σ.1 := rfl
theorem sL_same (σ : Wd) (q k : Nat) (v : Int64) : (sL σ q k v).2 q k = v := by
  show (if q = q then vp_updL (σ.2 q) k v else _) k = v
  rw [if_pos rfl]; exact if_pos rfl
theorem sL_slot {σ : Wd} {q k j : Nat} {v : Int64} (h : j ≠ k) : (sL σ q k v).2 q j = σ.2 q j := by
  show (if q = q then vp_updL (σ.2 q) k v else _) j = _
  rw [if_pos rfl]; exact if_neg h
theorem sL_place {σ : Wd} {q p k : Nat} {v : Int64} (h : p ≠ q) : (sL σ q k v).2 p = σ.2 p := if_neg h
/-- one read behind a write, in one row -/
theorem sI_at (σ : Wd) (q k p j : Nat) (v : Int32) : (sI σ q k v).1 p j = if p = q ∧ j = k then v else σ.1 p j := by
  by_cases hp : p = q
  · subst hp
    by_cases hj : j = k
    · subst hj; rw [sI_same, if_pos ⟨rfl, rfl⟩]
    · rw [sI_slot hj, if_neg (fun h => hj h.2)]
  · rw [sI_place hp, if_neg (fun h => hp h.1)]
theorem sL_at (σ : Wd) (q k p j : Nat) (v : Int64) : (sL σ q k v).2 p j = if p = q ∧ j = k then v else σ.2 p j := by
  by_cases hp : p = q
  · subst hp
    by_cases hj : j = k
    · subst hj; rw [sL_same, if_pos ⟨rfl, rfl⟩]
    · rw [sL_slot hj, if_neg (fun h => hj h.2)]
  · rw [sL_place hp, if_neg (fun h => hp h.1)]
/-- sets as numbers -/
theorem n31 : ∀ k, k < 31 → ((nI k &&& 31).toBitVec.smod 32).toNat = k := by decide +kernel
theorem c_shl {k : Nat} (hk : k < 31) : (1 : Int32) <<< (nI k &&& 31) = nI (2 ^ k) := by
  have := pk_shlN (n := 1) (nI k &&& 31) k (n31 k hk) (by rw [Nat.one_mul]; exact Nat.pow_lt_pow_right (by decide) (by omega))
  rw [Nat.one_mul] at this
  exact this
theorem c_shr {S k : Nat} (hS : S < 2 ^ 31) (hk : k < 31) : nI S >>> (nI k &&& 31) = nI (S / 2 ^ k) := pk_shrN hS (nI k &&& 31) k (n31 k hk)
def bN (b : Bool) : Nat := if b then 1 else 0
theorem nI_bN (b : Bool) : nI (bN b) = bI b := by cases b <;> rfl
theorem c_in {S k : Nat} (hS : S < 2 ^ 31) (hk : k < 31) : (nI S >>> (nI k &&& 31)) &&& 1 = bI (S.testBit k) := by
  rw [c_shr hS hk, show (1 : Int32) = nI 1 from rfl, fa_and, Nat.and_one_is_mod, ← nI_bN, Nat.testBit_eq_decide_div_mod_eq]
  congr 1
  generalize S / 2 ^ k = z
  unfold bN
  rcases Nat.mod_two_eq_zero_or_one z with h | h <;> rw [h] <;> rfl
theorem v_isIn {N S k : Nat} (hS : S < 2 ^ 31) (hk : k < 31) : f_X7_isIn N (nI S) (nI k) = some (bI (S.testBit k)) := by
  unfold f_X7_isIn
  rw [c_in hS hk, if_bI0, bI_if]
theorem v_setOf {N k : Nat} (hk : k < 31) : f_X7_setOf N (nI k) = some (nI (2 ^ k)) := by
  unfold f_X7_setOf; rw [c_shl hk]
/-- a set without another -/
def mn (A B : Nat) : Nat := A ^^^ (A &&& B)
theorem mn_bit (A B i : Nat) : (mn A B).testBit i = (A.testBit i && !B.testBit i) := by
  unfold mn
  rw [Nat.testBit_xor, Nat.testBit_and]
  cases A.testBit i <;> cases B.testBit i <;> rfl
theorem mn_c (A B : Nat) : nI A &&& (nI B ^^^ (-1)) = nI (mn A B) := by
  apply Int32.toBitVec_inj.1
  show BitVec.ofNat 32 A &&& (BitVec.ofNat 32 B ^^^ BitVec.allOnes 32) = BitVec.ofNat 32 (mn A B)
  apply BitVec.eq_of_getLsbD_eq
  intro i hi
  rw [BitVec.getLsbD_and, BitVec.getLsbD_xor, BitVec.getLsbD_allOnes, BitVec.getLsbD_ofNat, BitVec.getLsbD_ofNat, BitVec.getLsbD_ofNat, mn_bit]
  simp [hi]
theorem lt_of_bits {A n : Nat} (h : ∀ i, A.testBit i = true → i < n) : A < 2 ^ n := Nat.lt_pow_two_of_testBit A (fun i hi => by
  cases hb : A.testBit i with
  | false => rfl
  | true => exact absurd (h i hb) (by omega))
theorem bit_lt {A n i : Nat} (hA : A < 2 ^ n) (h : A.testBit i = true) : i < n := by
  refine Classical.byContradiction fun q => ?_
  have h1 := Nat.ge_two_pow_of_testBit h
  have h2 : 2 ^ n ≤ 2 ^ i := Nat.pow_le_pow_right (by decide) (by omega)
  omega
theorem mn_le (A B : Nat) : mn A B ≤ A := by
  have h : mn A B = mn A B &&& A := by
    apply Nat.eq_of_testBit_eq
    intro i
    rw [Nat.testBit_and, mn_bit]
    cases A.testBit i <;> cases B.testBit i <;> rfl
  rw [h]; exact Nat.and_le_right
theorem or_lt {A B n : Nat} (hA : A < 2 ^ n) (hB : B < 2 ^ n) : A ||| B < 2 ^ n := Nat.or_lt_two_pow hA hB
/-- how many -/
def pc (S : Nat) : Nat := fb_ct (fun k => S.testBit k) 20
/-- the count of the class, byte by byte -/
def bcA (x : Nat) : Nat := x - (x / 2 &&& 85)
theorem nat_and_cut (a b m k : Nat) (ha : a < 256) (hm : m < 256) : (a + 256 * b) &&& (m + 256 * k) = (a &&& m) + 256 * (b &&& k) := by
  have e : ∀ x y : Nat, x < 256 → x + 256 * y = 2 ^ 8 * y ||| x := fun x y h => by
    rw [← Nat.two_pow_add_eq_or_of_lt (i := 8) (by omega)]; omega
  have h : a &&& m < 256 := Nat.lt_of_le_of_lt Nat.and_le_left ha
  rw [e a b ha, e m k hm, e _ _ h]
  apply Nat.eq_of_testBit_eq
  intro i
  simp only [Nat.testBit_and, Nat.testBit_or, Nat.testBit_two_pow_mul]
  by_cases hi : 8 ≤ i
  · have h1 : a.testBit i = false := Nat.testBit_lt_two_pow (Nat.lt_of_lt_of_le (show a < 2 ^ 8 by omega) (Nat.pow_le_pow_right (by decide) hi))
    have h2 : m.testBit i = false := Nat.testBit_lt_two_pow (Nat.lt_of_lt_of_le (show m < 2 ^ 8 by omega) (Nat.pow_le_pow_right (by decide) hi))
    simp [h1, h2, hi]
  · simp [hi]
theorem pc_bits {S : Nat} (hS : S < 2 ^ 20) : fb_ct (fun k => S.testBit k) 8 + fb_ct (fun k => S.testBit (8 + k)) 8 + fb_ct (fun k => S.testBit (16 + k)) 4 = pc S := by
  unfold pc
  rw [show (20 : Nat) = 8 + 12 from rfl, fb_ct_split, show (12 : Nat) = 8 + 4 from rfl, fb_ct_split]
  simp only [← Nat.add_assoc]
def pc8 (x : Nat) : Nat := fb_ct (fun k => x.testBit k) 8
theorem and3 {a b c m : Nat} (ha : a < 256) (hb : b < 256) (hc : c < 256) (hm : m < 256) : (a + 256 * (b + 256 * c)) &&& (m + 256 * (m + 256 * (m + 256 * m))) = (a &&& m) + 256 * ((b &&& m) + 256 * (c &&& m)) := by
  rw [nat_and_cut _ _ _ _ ha hm, nat_and_cut _ _ _ _ hb hm]
  congr 2
  have := nat_and_cut c 0 m m hc hm
  rw [Nat.mul_zero, Nat.add_zero] at this
  rw [this, Nat.zero_and, Nat.mul_zero, Nat.add_zero]
def bcs1 (a : Nat) : Nat := a - (a / 2 &&& 85)
def bcs2 (a : Nat) : Nat := (bcs1 a &&& 51) + (bcs1 a / 4 &&& 51)
theorem bcs_1 : ∀ a, a < 256 → (a / 2 &&& 85) ≤ a ∧ ∀ h, h < 2 → (a / 2 + 128 * h) &&& 85 = a / 2 &&& 85 := by decide +kernel
theorem bcs_2 : ∀ a, a < 256 → bcs1 a < 256 ∧ ∀ h, h < 4 → (bcs1 a / 4 + 64 * h) &&& 51 = bcs1 a / 4 &&& 51 := by decide +kernel
theorem bcs_3 : ∀ a, a < 256 → bcs2 a / 16 ≤ 4 ∧ bcs2 a % 16 ≤ 4 ∧ ∀ h, h < 5 → (bcs2 a + bcs2 a / 16 + 16 * h) &&& 15 = pc8 a := by decide +kernel
theorem v_bitCount {N S : Nat} (hS : S < 2 ^ 20) : f_J6_bitCount_0f7a4 N (nI S) = some (nI (pc S)) := by
  obtain ⟨a, b, c, ha, hb, hc, rfl⟩ : ∃ a b c, a < 256 ∧ b < 256 ∧ c < 16 ∧ S = a + 256 * (b + 256 * c) := ⟨S % 256, S / 256 % 256, S / 65536, by omega, by omega, by omega, by omega⟩
  have hc' : c < 256 := by omega
  have sh : ∀ k, k < 31 → ((Int32.toUInt32 (nI k) &&& Int32.toUInt32 31).toBitVec % 32).toNat = k := by decide +kernel
  have a1 := bcs_1 a ha
  have b1 := bcs_1 b hb
  have c1 := bcs_1 c hc'
  have a2 := bcs_2 a ha
  have b2 := bcs_2 b hb
  have c2 := bcs_2 c hc'
  have a3 := bcs_3 a ha
  have b3 := bcs_3 b hb
  have c3 := bcs_3 c hc'
  have x1 : a - (a / 2 &&& 85) = bcs1 a := rfl
  have y1 : b - (b / 2 &&& 85) = bcs1 b := rfl
  have z1 : c - (c / 2 &&& 85) = bcs1 c := rfl
  have x2 : (bcs1 a &&& 51) + (bcs1 a / 4 &&& 51) = bcs2 a := rfl
  have y2 : (bcs1 b &&& 51) + (bcs1 b / 4 &&& 51) = bcs2 b := rfl
  have z2 : (bcs1 c &&& 51) + (bcs1 c / 4 &&& 51) = bcs2 c := rfl
  -- the first step
  have s1 : nI (a + 256 * (b + 256 * c)) - (((Int32.toUInt32 (nI (a + 256 * (b + 256 * c))) >>> (Int32.toUInt32 1 &&& Int32.toUInt32 31)).toInt32) &&& 1431655765) = nI (bcs1 a + 256 * (bcs1 b + 256 * bcs1 c)) := by
    rw [pk_ushrN (by omega) 1 1 (sh 1 (by omega)), show (1431655765 : Int32) = nI (85 + 256 * (85 + 256 * (85 + 256 * 85))) from rfl, fa_and,
      show (a + 256 * (b + 256 * c)) / 2 ^ 1 = (a / 2 + 128 * (b % 2)) + 256 * ((b / 2 + 128 * (c % 2)) + 256 * (c / 2)) by omega, and3 (by omega) (by omega) (by omega) (by omega),
      a1.2 _ (by omega), b1.2 _ (by omega), pk_sub (by omega)]
    congr 1
    omega
  have s2 : (nI (bcs1 a + 256 * (bcs1 b + 256 * bcs1 c)) &&& 858993459) + (((Int32.toUInt32 (nI (bcs1 a + 256 * (bcs1 b + 256 * bcs1 c))) >>> (Int32.toUInt32 2 &&& Int32.toUInt32 31)).toInt32) &&& 858993459) = nI (bcs2 a + 256 * (bcs2 b + 256 * bcs2 c)) := by
    rw [pk_ushrN (by omega) 2 2 (sh 2 (by omega)), show (858993459 : Int32) = nI (51 + 256 * (51 + 256 * (51 + 256 * 51))) from rfl, fa_and, fa_and,
      show (bcs1 a + 256 * (bcs1 b + 256 * bcs1 c)) / 2 ^ 2 = (bcs1 a / 4 + 64 * (bcs1 b % 4)) + 256 * ((bcs1 b / 4 + 64 * (bcs1 c % 4)) + 256 * (bcs1 c / 4)) by omega, and3 (by omega) (by omega) (by omega) (by omega), and3 (by omega) (by omega) (by omega) (by omega),
      a2.2 _ (by omega), b2.2 _ (by omega), nI_add]
    congr 1
    omega
  have s3 : (nI (bcs2 a + 256 * (bcs2 b + 256 * bcs2 c)) + ((Int32.toUInt32 (nI (bcs2 a + 256 * (bcs2 b + 256 * bcs2 c))) >>> (Int32.toUInt32 4 &&& Int32.toUInt32 31)).toInt32)) &&& 252645135 = nI (pc8 a + 256 * (pc8 b + 256 * pc8 c)) := by
    rw [pk_ushrN (by omega) 4 4 (sh 4 (by omega)), show (252645135 : Int32) = nI (15 + 256 * (15 + 256 * (15 + 256 * 15))) from rfl, nI_add, fa_and,
      show (bcs2 a + 256 * (bcs2 b + 256 * bcs2 c)) + (bcs2 a + 256 * (bcs2 b + 256 * bcs2 c)) / 2 ^ 4 = (bcs2 a + bcs2 a / 16 + 16 * (bcs2 b % 16)) + 256 * ((bcs2 b + bcs2 b / 16 + 16 * (bcs2 c % 16)) + 256 * (bcs2 c + bcs2 c / 16 + 16 * 0)) by omega, and3 (by omega) (by omega) (by omega) (by omega),
      a3.2.2 _ (by omega), b3.2.2 _ (by omega), c3.2.2 _ (by omega)]
  have le : ∀ x, pc8 x ≤ 8 := fun x => fb_ct_le _ 8
  have la := le a
  have lb := le b
  have lc := le c
  have hpc : pc8 a + pc8 b + pc8 c = pc (a + 256 * (b + 256 * c)) := by
    have q1 : ∀ k, k < 8 → a.testBit k = (a + 256 * (b + 256 * c)).testBit k := fun k hk => by
      rw [show a + 256 * (b + 256 * c) = 2 ^ 8 * (b + 256 * c) + a by omega, Nat.two_pow_add_eq_or_of_lt (by omega), Nat.testBit_or, Nat.testBit_two_pow_mul]
      simp [show ¬ 8 ≤ k by omega]
    have q2 : ∀ k, k < 8 → b.testBit k = (a + 256 * (b + 256 * c)).testBit (8 + k) := fun k hk => by
      rw [Nat.add_comm 8 k, Nat.testBit_add, show (a + 256 * (b + 256 * c)) / 2 ^ 8 = 2 ^ 8 * c + b by omega, Nat.two_pow_add_eq_or_of_lt (by omega), Nat.testBit_or, Nat.testBit_two_pow_mul]
      simp [show ¬ 8 ≤ k by omega]
    have q3 : ∀ k, k < 8 → c.testBit k = (a + 256 * (b + 256 * c)).testBit (16 + k) := fun k hk => by
      rw [Nat.add_comm 16 k, Nat.testBit_add, show (a + 256 * (b + 256 * c)) / 2 ^ 16 = c by omega]
    have q4 : fb_ct (fun k => c.testBit k) 8 = fb_ct (fun k => c.testBit k) 4 := by
      rw [show (8 : Nat) = 4 + 4 from rfl, fb_ct_split]
      have : fb_ct (fun k => c.testBit (4 + k)) 4 = 0 := fb_ct_zero.mpr (fun k hk => Nat.testBit_lt_two_pow (Nat.lt_of_lt_of_le (show c < 2 ^ 4 by omega) (Nat.pow_le_pow_right (by decide) (by omega))))
      omega
    rw [← pc_bits hS, ← fb_ct_cong q1, ← fb_ct_cong q2]
    unfold pc8
    rw [q4, fb_ct_cong (n := 4) (fun k hk => q3 k (by omega))]
  simp only [f_J6_bitCount_0f7a4, lI]
  rw [s1, s2, s3, pk_ushrN (by omega) 8 8 (sh 8 (by omega)), nI_add, pk_ushrN (by omega) 16 16 (sh 16 (by omega)), nI_add, show (63 : Int32) = nI 63 from rfl, fa_and, ← hpc, show (63 : Nat) = 2 ^ 6 - 1 from rfl, Nat.and_two_pow_sub_one_eq_mod]
  have e8 : (pc8 a + 256 * (pc8 b + 256 * pc8 c)) / 2 ^ 8 = pc8 b + 256 * pc8 c := by
    clear s1 s2 s3 a1 b1 c1 a2 b2 c2 a3 b3 c3 hpc
    omega
  have e16 : (pc8 a + 256 * (pc8 b + 256 * pc8 c) + (pc8 b + 256 * pc8 c)) / 2 ^ 16 = pc8 c := by
    clear s1 s2 s3 a1 b1 c1 a2 b2 c2 a3 b3 c3 hpc
    omega
  have e6 : (pc8 a + 256 * (pc8 b + 256 * pc8 c) + (pc8 b + 256 * pc8 c) + pc8 c) % 2 ^ 6 = pc8 a + pc8 b + pc8 c := by
    clear s1 s2 s3 a1 b1 c1 a2 b2 c2 a3 b3 c3 hpc
    omega
  rw [e8, e16, e6]
