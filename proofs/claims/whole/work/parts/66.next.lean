/-! THE SETS OF WIRES IN THE ORDER OF THEIR NUMBERS. -/
/-- the set within W that comes next; 0 behind the last -/
def nx : Nat → Nat → Nat → Nat
  | 0, _, _ => 0
  | n + 1, W, S => if W % 2 = 0 then 2 * nx n (W / 2) (S / 2) else if S % 2 = 0 then S + 1 else 2 * nx n (W / 2) (S / 2)
theorem land2 {a b x y : Nat} (hx : x < 2) (hy : y < 2) : (2 * a + x) &&& (2 * b + y) = 2 * (a &&& b) + (x &&& y) := by
  apply Nat.eq_of_testBit_eq
  intro i
  cases i with
  | zero =>
    simp only [Nat.testBit_and, Nat.testBit_zero]
    rcases (show x = 0 ∨ x = 1 by omega) with rfl | rfl <;> rcases (show y = 0 ∨ y = 1 by omega) with rfl | rfl <;> simp <;> omega
  | succ i =>
    have hxy : x &&& y < 2 := Nat.lt_of_le_of_lt Nat.and_le_left hx
    rw [Nat.testBit_and, Nat.testBit_succ, Nat.testBit_succ, Nat.testBit_succ]
    rw [show (2 * a + x) / 2 = a by omega, show (2 * b + y) / 2 = b by omega, show (2 * (a &&& b) + (x &&& y)) / 2 = a &&& b by omega, Nat.testBit_and]
theorem sub2 {S W : Nat} (h : S &&& W = S) : (S / 2) &&& (W / 2) = S / 2 ∧ (W % 2 = 0 → S % 2 = 0) := by
  have h1 := land2 (a := S / 2) (b := W / 2) (x := S % 2) (y := W % 2) (Nat.mod_lt _ (by omega)) (Nat.mod_lt _ (by omega))
  rw [show 2 * (S / 2) + S % 2 = S by omega, show 2 * (W / 2) + W % 2 = W by omega, h] at h1
  have h2 : (S % 2) &&& (W % 2) < 2 := Nat.lt_of_le_of_lt Nat.and_le_left (Nat.mod_lt _ (by omega))
  refine ⟨by omega, fun h3 => ?_⟩
  rw [h3, Nat.and_zero] at h1
  omega
theorem sub_le' {S W : Nat} (h : S &&& W = S) : S ≤ W := by rw [← h]; exact Nat.and_le_right
theorem sub_co : ∀ (K S W : Nat), S &&& W = S → W < 2 ^ K → (S + 2 ^ K - 1 - W) &&& W = S
  | 0, S, W, h, hW => by
    have : W = 0 := by simpa using hW
    subst this
    have := sub_le' h
    simp at *; omega
  | K + 1, S, W, h, hW => by
    obtain ⟨h1, h2⟩ := sub2 h
    have hp : 2 ^ (K + 1) = 2 * 2 ^ K := by rw [Nat.pow_succ]; omega
    have ih := sub_co K (S / 2) (W / 2) h1 (by omega)
    have hle := sub_le' h1
    rcases Nat.mod_two_eq_zero_or_one W with q | q
    · have q2 := h2 q
      have e1 : S + 2 ^ (K + 1) - 1 - W = 2 * (S / 2 + 2 ^ K - 1 - W / 2) + 1 := by omega
      have e2 : W = 2 * (W / 2) + 0 := by omega
      rw [e1]
      rw [show ((2 * (S / 2 + 2 ^ K - 1 - W / 2) + 1) &&& W) = ((2 * (S / 2 + 2 ^ K - 1 - W / 2) + 1) &&& (2 * (W / 2) + 0)) by rw [← e2], land2 (by omega) (by omega), ih]
      simp; omega
    · rcases Nat.mod_two_eq_zero_or_one S with q2 | q2
      · have e1 : S + 2 ^ (K + 1) - 1 - W = 2 * (S / 2 + 2 ^ K - 1 - W / 2) + 0 := by omega
        have e2 : W = 2 * (W / 2) + 1 := by omega
        rw [e1]
        rw [show ((2 * (S / 2 + 2 ^ K - 1 - W / 2) + 0) &&& W) = ((2 * (S / 2 + 2 ^ K - 1 - W / 2) + 0) &&& (2 * (W / 2) + 1)) by rw [← e2], land2 (by omega) (by omega), ih]
        simp; omega
      · have e1 : S + 2 ^ (K + 1) - 1 - W = 2 * (S / 2 + 2 ^ K - 1 - W / 2) + 1 := by omega
        have e2 : W = 2 * (W / 2) + 1 := by omega
        rw [e1]
        rw [show ((2 * (S / 2 + 2 ^ K - 1 - W / 2) + 1) &&& W) = ((2 * (S / 2 + 2 ^ K - 1 - W / 2) + 1) &&& (2 * (W / 2) + 1)) by rw [← e2], land2 (by omega) (by omega), ih]
        simp; omega
theorem nx_land : ∀ (n K S W : Nat), n ≤ K → S &&& W = S → W < 2 ^ n → (S + 2 ^ K - W) &&& W = nx n W S
  | 0, K, S, W, _, h, hW => by
    have : W = 0 := by simpa using hW
    subst this
    rw [Nat.and_zero]; rfl
  | n + 1, K, S, W, hK, h, hW => by
    obtain ⟨K, rfl⟩ : ∃ k, K = k + 1 := ⟨K - 1, by omega⟩
    obtain ⟨h1, h2⟩ := sub2 h
    have hp : 2 ^ (K + 1) = 2 * 2 ^ K := by rw [Nat.pow_succ]; omega
    have hpn : 2 ^ (n + 1) = 2 * 2 ^ n := by rw [Nat.pow_succ]; omega
    have hnK : 2 ^ n ≤ 2 ^ K := Nat.pow_le_pow_right (by decide) (by omega)
    have ih := nx_land n K (S / 2) (W / 2) (by omega) h1 (by omega)
    have hle := sub_le' h1
    unfold nx
    rcases Nat.mod_two_eq_zero_or_one W with q | q
    · have q2 := h2 q
      rw [if_pos q]
      have e1 : S + 2 ^ (K + 1) - W = 2 * (S / 2 + 2 ^ K - W / 2) + 0 := by omega
      have e2 : W = 2 * (W / 2) + 0 := by omega
      rw [e1, show ((2 * (S / 2 + 2 ^ K - W / 2) + 0) &&& W) = ((2 * (S / 2 + 2 ^ K - W / 2) + 0) &&& (2 * (W / 2) + 0)) by rw [← e2], land2 (by omega) (by omega), ih]
      simp
    · rw [if_neg (by omega)]
      rcases Nat.mod_two_eq_zero_or_one S with q2 | q2
      · rw [if_pos q2]
        have e1 : S + 2 ^ (K + 1) - W = 2 * (S / 2 + 2 ^ K - 1 - W / 2) + 1 := by omega
        have e2 : W = 2 * (W / 2) + 1 := by omega
        rw [e1, show ((2 * (S / 2 + 2 ^ K - 1 - W / 2) + 1) &&& W) = ((2 * (S / 2 + 2 ^ K - 1 - W / 2) + 1) &&& (2 * (W / 2) + 1)) by rw [← e2], land2 (by omega) (by omega), sub_co K _ _ h1 (by omega)]
        simp; omega
      · rw [if_neg (by omega)]
        have e1 : S + 2 ^ (K + 1) - W = 2 * (S / 2 + 2 ^ K - W / 2) + 0 := by omega
        have e2 : W = 2 * (W / 2) + 1 := by omega
        rw [e1, show ((2 * (S / 2 + 2 ^ K - W / 2) + 0) &&& W) = ((2 * (S / 2 + 2 ^ K - W / 2) + 0) &&& (2 * (W / 2) + 1)) by rw [← e2], land2 (by omega) (by omega), ih]
        simp
theorem v_setBehind {N S : Nat} {t : Nt} {s : Wd} (r : RM s t) (i : IN t) (h : S &&& t.wr = S) : f_X8_setBehind N s (nI S) = some (nI (nx 20 t.wr S)) := by
  have hw := i.wr20
  have hle := sub_le' h
  simp only [f_X8_setBehind, gI, r.wr]
  have e : nI S = nI (S + 2 ^ 32) := by
    rw [← nI_add]
    show nI S = nI S + 0
    simp
  rw [e, pk_sub (by omega), fa_and, nx_land 20 32 S t.wr (by omega) h (by omega)]
theorem nx_0 : ∀ n S, S = 0 → nx n 0 S = 0
  | 0, _, _ => rfl
  | n + 1, S, h => by
    subst h
    unfold nx
    rw [if_pos (by omega)]
    show 2 * nx n 0 0 = 0
    rw [nx_0 n 0 rfl]
theorem nx_last : ∀ n W, nx n W W = 0
  | 0, _ => rfl
  | n + 1, W => by
    unfold nx
    rw [nx_last n (W / 2)]
    split
    · rfl
    · rfl
theorem nx_ne : ∀ n W S, W < 2 ^ n → S &&& W = S → S ≠ W → nx n W S ≠ 0
  | 0, W, S, hW, h, hne => by
    have : W = 0 := by simpa using hW
    have := sub_le' h
    omega
  | n + 1, W, S, hW, h, hne => by
    obtain ⟨h1, h2⟩ := sub2 h
    have hpn : 2 ^ (n + 1) = 2 * 2 ^ n := by rw [Nat.pow_succ]; omega
    unfold nx
    split
    · rename_i q
      have := h2 q
      have := nx_ne n (W / 2) (S / 2) (by omega) h1 (by omega)
      omega
    · split
      · omega
      · have := nx_ne n (W / 2) (S / 2) (by omega) h1 (by omega)
        omega
/-- with one higher wire more -/
theorem nx_high : ∀ (m n W S : Nat), m < n → W < 2 ^ m → S &&& W = S → nx n (W + 2 ^ m) S = (if S = W then 2 ^ m else nx n W S) ∧ nx n (W + 2 ^ m) (S + 2 ^ m) = (if S = W then 0 else nx n W S + 2 ^ m)
  | 0, n, W, S, hm, hW, h => by
    have hW0 : W = 0 := by simpa using hW
    have := sub_le' h
    have hS : S = 0 := by omega
    subst hW0; subst hS
    obtain ⟨n, rfl⟩ : ∃ k, n = k + 1 := ⟨n - 1, by omega⟩
    rw [if_pos rfl, if_pos rfl]
    refine ⟨rfl, ?_⟩
    exact nx_last _ _
  | m + 1, n, W, S, hm, hW, h => by
    obtain ⟨n, rfl⟩ : ∃ k, n = k + 1 := ⟨n - 1, by omega⟩
    obtain ⟨h1, h2⟩ := sub2 h
    have hpn : 2 ^ (m + 1) = 2 * 2 ^ m := by rw [Nat.pow_succ]; omega
    obtain ⟨i1, i2⟩ := nx_high m n (W / 2) (S / 2) (by omega) (by omega) h1
    unfold nx
    rw [hpn, show (W + 2 * 2 ^ m) % 2 = W % 2 by omega, show (W + 2 * 2 ^ m) / 2 = W / 2 + 2 ^ m by omega, show (S + 2 * 2 ^ m) % 2 = S % 2 by omega, show (S + 2 * 2 ^ m) / 2 = S / 2 + 2 ^ m by omega, i1, i2]
    rcases Nat.mod_two_eq_zero_or_one W with q | q
    · have q2 := h2 q
      simp only [if_pos q]
      by_cases e : S / 2 = W / 2
      · simp only [if_pos e, if_pos (show S = W by omega)]
        exact ⟨by first | trivial | rfl, by first | trivial | rfl⟩
      · simp only [if_neg e, if_neg (show ¬ S = W by omega)]
        exact ⟨by first | trivial | rfl, by first | trivial | omega⟩
    · have q' : ¬ W % 2 = 0 := by omega
      simp only [if_neg q']
      rcases Nat.mod_two_eq_zero_or_one S with q2 | q2
      · simp only [if_pos q2, if_neg (show ¬ S = W by omega)]
        exact ⟨by first | trivial | rfl, by first | trivial | omega⟩
      · have q2' : ¬ S % 2 = 0 := by omega
        simp only [if_neg q2']
        by_cases e : S / 2 = W / 2
        · simp only [if_pos e, if_pos (show S = W by omega)]
          exact ⟨by first | trivial | rfl, by first | trivial | rfl⟩
        · simp only [if_neg e, if_neg (show ¬ S = W by omega)]
          exact ⟨by first | trivial | rfl, by first | trivial | omega⟩
/-- a way from one set to another, by nx, the last one left out -/
def Pth (n W : Nat) : Nat → List Nat → Nat → Prop
  | a, [], b => a = b
  | a, x :: L, b => a = x ∧ (x &&& W = x) ∧ x ≠ W ∧ Pth n W (nx n W x) L b
theorem Pth.app {n W : Nat} : ∀ {L : List Nat} {a b c : Nat} {M : List Nat}, Pth n W a L b → Pth n W b M c → Pth n W a (L ++ M) c
  | [], a, b, c, M, h, g => by
    have e : a = b := h
    subst e; exact g
  | x :: L, a, b, c, M, ⟨h1, h2, h3, h4⟩, g => ⟨h1, h2, h3, Pth.app h4 g⟩
def low2 (W m : Nat) : Nat := W % 2 ^ m
def inits (W : Nat) : Nat → List Nat
  | 0 => []
  | m + 1 => if W.testBit m then inits W m ++ low2 W m :: (inits W m).map (· + 2 ^ m) else inits W m
theorem low2_succ (W m : Nat) : low2 W (m + 1) = if W.testBit m then low2 W m + 2 ^ m else low2 W m := by
  unfold low2
  rw [Nat.pow_succ, Nat.mod_mul, Nat.testBit_eq_decide_div_mod_eq]
  rcases Nat.mod_two_eq_zero_or_one (W / 2 ^ m) with q | q <;> rw [q] <;> simp
theorem add_high {S m : Nat} (h : S < 2 ^ m) : S + 2 ^ m = S ||| 2 ^ m := by
  have := Nat.two_pow_add_eq_or_of_lt h 1
  rw [Nat.mul_one] at this
  rw [Nat.or_comm, ← this, Nat.add_comm]
theorem sub_high {S W m : Nat} (hS : S < 2 ^ m) (hW : W < 2 ^ m) (h : S &&& W = S) : (S &&& (W + 2 ^ m) = S) ∧ (S + 2 ^ m) &&& (W + 2 ^ m) = S + 2 ^ m := by
  have hb : ∀ i, S.testBit i = true → W.testBit i = true := fun i hi => by
    rw [← h, Nat.testBit_and, Bool.and_eq_true] at hi; exact hi.2
  have hm : S.testBit m = false := Nat.testBit_lt_two_pow hS
  rw [add_high hS, add_high hW]
  constructor
  · apply Nat.eq_of_testBit_eq
    intro i
    rw [Nat.testBit_and, Nat.testBit_or]
    cases hi : S.testBit i
    · rfl
    · rw [hb i hi]; rfl
  · apply Nat.eq_of_testBit_eq
    intro i
    rw [Nat.testBit_and, Nat.testBit_or, Nat.testBit_or]
    cases hi : S.testBit i
    · cases (2 ^ m).testBit i <;> simp
    · rw [hb i hi]; simp
theorem Pth.lift {n m W : Nat} (hm : m < n) (hW : W < 2 ^ m) : ∀ {L : List Nat} {a b : Nat}, Pth n W a L b → Pth n (W + 2 ^ m) a L b ∧ Pth n (W + 2 ^ m) (a + 2 ^ m) (L.map (· + 2 ^ m)) (b + 2 ^ m)
  | [], a, b, h => by
    have e : a = b := h
    subst e; exact ⟨rfl, rfl⟩
  | x :: L, a, b, ⟨h1, h2, h3, h4⟩ => by
    subst h1
    have hx := sub_le' h2
    obtain ⟨s1, s2⟩ := sub_high (show a < 2 ^ m by omega) hW h2
    obtain ⟨n1, n2⟩ := nx_high m n W a hm hW h2
    obtain ⟨p1, p2⟩ := Pth.lift hm hW h4
    rw [if_neg h3] at n1 n2
    refine ⟨⟨rfl, s1, by omega, by rw [n1]; exact p1⟩, rfl, s2, show ¬ a + 2 ^ m = W + 2 ^ m by omega, ?_⟩
    show Pth n (W + 2 ^ m) (nx n (W + 2 ^ m) (a + 2 ^ m)) _ _
    rw [n2]; exact p2
theorem Pth.all {n W : Nat} : ∀ m, m ≤ n → Pth n (low2 W m) 0 (inits W m) (low2 W m)
  | 0, _ => by
    show 0 = low2 W 0
    unfold low2
    simp [Nat.mod_one]
  | m + 1, h => by
    have ih := Pth.all (n := n) (W := W) m (by omega)
    have hl : low2 W m < 2 ^ m := Nat.mod_lt _ (Nat.two_pow_pos m)
    rw [low2_succ]
    unfold inits
    cases hb : W.testBit m
    · simp only [Bool.false_eq_true, if_false]; exact ih
    · simp only [if_true]
      obtain ⟨p1, p2⟩ := Pth.lift (show m < n by omega) hl ih
      obtain ⟨n1, -⟩ := nx_high m n (low2 W m) (low2 W m) (by omega) hl (Nat.and_self _)
      rw [if_pos rfl] at n1
      obtain ⟨s1, -⟩ := sub_high hl hl (Nat.and_self _)
      have hp := Nat.two_pow_pos m
      refine Pth.app p1 ⟨rfl, s1, by omega, ?_⟩
      rw [n1]
      rw [Nat.zero_add] at p2
      exact p2
theorem inits_lt {W : Nat} : ∀ m, ∀ x ∈ inits W m, x < 2 ^ m
  | 0, x, h => nomatch h
  | m + 1, x, h => by
    have hp : 2 ^ (m + 1) = 2 * 2 ^ m := by rw [Nat.pow_succ]; omega
    have hl : low2 W m < 2 ^ m := Nat.mod_lt _ (Nat.two_pow_pos m)
    unfold inits at h
    split at h
    · rcases List.mem_append.mp h with h | h
      · have := inits_lt m x h; omega
      · rcases List.mem_cons.mp h with rfl | h
        · omega
        · obtain ⟨y, hy, rfl⟩ := List.mem_map.mp h
          have := inits_lt m y hy
          show y + 2 ^ m < _
          omega
    · have := inits_lt m x h; omega
/-- sums over a list -/
def sumL (F : Nat → Nat) : List Nat → Nat
  | [] => 0
  | x :: L => F x + sumL F L
theorem sumL_app (F : Nat → Nat) : ∀ L M : List Nat, sumL F (L ++ M) = sumL F L + sumL F M
  | [], M => by show sumL F M = 0 + sumL F M; omega
  | x :: L, M => by
    show F x + sumL F (L ++ M) = F x + sumL F L + _
    rw [sumL_app F L M]; omega
theorem sumL_congr {F G : Nat → Nat} : ∀ {L : List Nat}, (∀ x ∈ L, F x = G x) → sumL F L = sumL G L
  | [], _ => rfl
  | x :: L, h => by
    show F x + _ = G x + _
    rw [h x List.mem_cons_self, sumL_congr (fun y hy => h y (List.mem_cons_of_mem _ hy))]
theorem sumL_map (F : Nat → Nat) (c : Nat → Nat) : ∀ L : List Nat, sumL F (L.map c) = sumL (fun x => F (c x)) L
  | [] => rfl
  | x :: L => by
    show F (c x) + _ = F (c x) + _
    rw [sumL_map F c L]
theorem lst_low {t : Nt} {S S' : Nat} : ∀ {m : Nat}, (∀ i, i < m → S.testBit i = S'.testBit i) → lst t S m = lst t S' m
  | 0, _ => rfl
  | m + 1, h => by
    unfold lst
    rw [h m (by omega), lst_low (fun i hi => h i (by omega))]
theorem sumL_inits {t : Nt} {W : Nat} : ∀ (m : Nat) (F : List Ed → Nat), sumL (fun x => F (lst t x m)) (inits W m) + F (lst t (low2 W m) m) = sumW (fun w => W.testBit w) t.g m F
  | 0, F => by show 0 + F [] = F []; omega
  | m + 1, F => by
    have hl : low2 W m < 2 ^ m := Nat.mod_lt _ (Nat.two_pow_pos m)
    have lo : ∀ x, x < 2 ^ m → lst t x (m + 1) = lst t x m := fun x hx => by
      have : x.testBit m = false := Nat.testBit_lt_two_pow hx
      rw [lst, this]; rfl
    have hi : ∀ x, x < 2 ^ m → lst t (x + 2 ^ m) (m + 1) = t.g m :: lst t x m := fun x hx => by
      have h1 : (x + 2 ^ m).testBit m = true := by rw [add_high hx, Nat.testBit_or, Nat.testBit_two_pow]; simp
      rw [lst, h1, if_pos rfl]
      congr 1
      refine lst_low (fun i hi => ?_)
      rw [add_high hx, Nat.testBit_or, Nat.testBit_two_pow]
      simp [show ¬ m = i by omega]
    have i1 := sumL_inits (t := t) (W := W) m F
    have i2 := sumL_inits (t := t) (W := W) m (fun S => F (t.g m :: S))
    rw [low2_succ]
    unfold inits sumW
    cases hb : W.testBit m
    · simp only [Bool.false_eq_true, if_false]
      rw [lo _ hl, sumL_congr (G := fun x => F (lst t x m)) (fun x hx => by rw [lo x (inits_lt m x hx)])]
      exact i1
    · simp only [if_true]
      rw [← i1, ← i2, sumL_app, hi _ hl]
      show sumL _ (inits W m) + (F (lst t (low2 W m) (m + 1)) + sumL _ ((inits W m).map (· + 2 ^ m))) + _ = _
      rw [lo _ hl, sumL_map, sumL_congr (G := fun x => F (lst t x m)) (L := inits W m) (fun x hx => by rw [lo x (inits_lt m x hx)])]
      rw [sumL_congr (F := fun x => F (lst t (x + 2 ^ m) (m + 1))) (G := fun x => F (t.g m :: lst t x m)) (fun x hx => by rw [hi x (inits_lt m x hx)])]
      omega
