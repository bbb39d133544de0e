/-! THE LAW'S ROWS: what they hold of a network; what lies between two nodes; fractions. -/
theorem lq4 : (4 : Int32) = nI 4 := rfl
theorem lq5 : (5 : Int32) = nI 5 := rfl
/-- what the law's rows hold of a network -/
abbrev RQ (ν : Wd) (t : Nt) : Prop := (ν.1 0 0 = nI t.nN) ∧ (ν.1 0 1 = nI t.nd) ∧ (ν.1 0 2 = nI t.ed) ∧ (ν.1 0 3 = nI t.nW) ∧ (ν.1 0 4 = nI t.wr) ∧ (∀ w, w < t.nW → ν.1 1 w = nI (t.f w)) ∧ (∀ w, w < t.nW → ν.1 2 w = nI (t.s w)) ∧ (∀ w, w < t.nW → ν.1 3 w = nI (t.c w))
section RQs
variable {ν ν' : Wd} {t : Nt} {ρ : Type} {K : Int32 → Option ρ}
theorem RQ.nN (h : RQ ν t) : ν.1 0 0 = nI t.nN := h.1
theorem RQ.nd (h : RQ ν t) : ν.1 0 1 = nI t.nd := h.2.1
theorem RQ.ed (h : RQ ν t) : ν.1 0 2 = nI t.ed := h.2.2.1
theorem RQ.nW (h : RQ ν t) : ν.1 0 3 = nI t.nW := h.2.2.2.1
theorem RQ.wr (h : RQ ν t) : ν.1 0 4 = nI t.wr := h.2.2.2.2.1
theorem RQ.f (h : RQ ν t) : ∀ w, w < t.nW → ν.1 1 w = nI (t.f w) := h.2.2.2.2.2.1
theorem RQ.s (h : RQ ν t) : ∀ w, w < t.nW → ν.1 2 w = nI (t.s w) := h.2.2.2.2.2.2.1
theorem RQ.c (h : RQ ν t) : ∀ w, w < t.nW → ν.1 3 w = nI (t.c w) := h.2.2.2.2.2.2.2
theorem RQ.same (h : RQ ν t) (h1 : ∀ k, k < 5 → ν'.1 0 k = ν.1 0 k) (h2 : ∀ p, 1 ≤ p → p ≤ 3 → ν'.1 p = ν.1 p) : RQ ν' t :=
  ⟨by rw [h1 0 (by omega)]; exact h.nN, by rw [h1 1 (by omega)]; exact h.nd, by rw [h1 2 (by omega)]; exact h.ed, by rw [h1 3 (by omega)]; exact h.nW, by rw [h1 4 (by omega)]; exact h.wr, by rw [h2 1 (by omega) (by omega)]; exact h.f, by rw [h2 2 (by omega) (by omega)]; exact h.s, by rw [h2 3 (by omega) (by omega)]; exact h.c⟩
theorem rg_0 (h : RQ ν t) : rI ν 0 6 0 K = K (nI t.nN) := by rw [lq0, rI_n (by omega) (by omega), h.nN]
theorem rg_1 (h : RQ ν t) : rI ν 0 6 1 K = K (nI t.nd) := by rw [lq1, rI_n (by omega) (by omega), h.nd]
theorem rg_2 (h : RQ ν t) : rI ν 0 6 2 K = K (nI t.ed) := by rw [lq2, rI_n (by omega) (by omega), h.ed]
theorem rg_3 (h : RQ ν t) : rI ν 0 6 3 K = K (nI t.nW) := by rw [lq3, rI_n (by omega) (by omega), h.nW]
theorem rg_4 (h : RQ ν t) : rI ν 0 6 4 K = K (nI t.wr) := by rw [lq4, rI_n (by omega) (by omega), h.wr]
theorem rp_1 (h : RQ ν t) (i : IN t) {w : Nat} (hw : w < t.nW) : rI ν 1 20 (nI w) K = K (nI (t.f w)) := by
  have := i.nW
  rw [rI_n (by omega) (by omega), h.f w hw]
theorem rp_2 (h : RQ ν t) (i : IN t) {w : Nat} (hw : w < t.nW) : rI ν 2 20 (nI w) K = K (nI (t.s w)) := by
  have := i.nW
  rw [rI_n (by omega) (by omega), h.s w hw]
theorem rp_3 (h : RQ ν t) (i : IN t) {w : Nat} (hw : w < t.nW) : rI ν 3 20 (nI w) K = K (nI (t.c w)) := by
  have := i.nW
  rw [rI_n (by omega) (by omega), h.c w hw]
end RQs
/-- a wire that counts between two nodes; of a node with itself those to all others -/
def bwB (t : Nt) (a b w : Nat) : Bool := t.Q w && (if a = b then (t.f w == a || t.s w == a) else ((t.f w == a && t.s w == b) || (t.f w == b && t.s w == a)))
def bs (t : Nt) (a b : Nat) : Nat → Nat
  | 0 => 0
  | k + 1 => bs t a b k + (if bwB t a b k = true then t.c k else 0)
section btw2
variable {N : Nat} {ν : Wd} {t : Nt}
theorem v_btw6 {ρ : Type} {K : Int64 → Option ρ} (r : RQ ν t) (i : IN t) {a b : Nat} (ha : a < 7) (hb : b < 7) : ∀ d k n, k + d = t.nW → d < n → fl_L_between_6 N ν (nI a) (nI b) K n (lN (bs t a b k)) (nI k) = K (lN (bs t a b t.nW)) := by
  have hW := i.nW
  have h20 := i.wr20
  intro d
  induction d with
  | zero =>
    intro k n hk hn
    obtain ⟨n, rfl⟩ : ∃ m, n = m + 1 := ⟨n - 1, by omega⟩
    rw [fl_L_between_6, rg_3 r, if_pos (nI_le (by omega) (by omega)), show k = t.nW by omega]
  | succ d ih =>
    intro k n hk hn
    obtain ⟨n, rfl⟩ : ∃ m, n = m + 1 := ⟨n - 1, by omega⟩
    have hkW : k < t.nW := by omega
    have hf := i.fb k
    have hs := i.sb k
    have ih' := ih (k + 1) n (by omega) (by omega)
    have no : bwB t a b k = false → fl_L_between_6 N ν (nI a) (nI b) K n (lN (bs t a b k)) (nI k + 1) = K (lN (bs t a b t.nW)) := fun h => by
      have e : bs t a b (k + 1) = bs t a b k := by
        show bs t a b k + _ = _
        rw [h]; rfl
      rw [e] at ih'
      rw [nI_1]; exact ih'
    have yes : t.wr.testBit k = true → bwB t a b k = true → fl_L_between_6 N ν (nI a) (nI b) K n (lN (bs t a b k) + (nI (t.c k)).toInt64) (nI k + 1) = K (lN (bs t a b t.nW)) := fun hw h => by
      have e : bs t a b (k + 1) = bs t a b k + t.c k := by
        show bs t a b k + _ = _
        rw [h]; rfl
      have := i.cb k hw
      rw [e] at ih'
      rw [nI_1, nI_l (by omega), lN_add]; exact ih'
    have eB : bwB t a b k = ((t.wr.testBit k && !(t.f k == t.s k)) && (if a = b then (t.f k == a || t.s k == a) else ((t.f k == a && t.s k == b) || (t.f k == b && t.s k == a)))) := rfl
    rw [fl_L_between_6, rg_3 r, if_neg (nI_ge hkW (by omega)), rg_4 r]
    rw [c_in (by omega) (by omega)]
    simp only [rp_1 r i hkW, rp_2 r i hkW, rp_3 r i hkW, jn_e, lL]
    have q0 : (nI (t.f k) = nI (t.s k)) ↔ t.f k = t.s k := nI_eq (by omega) (by omega)
    have q1 : (nI a = nI b) ↔ a = b := nI_eq (by omega) (by omega)
    have q2 : (nI (t.f k) = nI a) ↔ t.f k = a := nI_eq (by omega) (by omega)
    have q3 : (nI (t.f k) = nI b) ↔ t.f k = b := nI_eq (by omega) (by omega)
    have q4 : (nI (t.s k) = nI a) ↔ t.s k = a := nI_eq (by omega) (by omega)
    have q5 : (nI (t.s k) = nI b) ↔ t.s k = b := nI_eq (by omega) (by omega)
    simp only [q0, q1, q2, q3, q4, q5]
    cases hw : t.wr.testBit k
    · rw [if_pos (show bI false = 0 from rfl)]
      exact no (by rw [eB, hw]; rfl)
    · rw [if_neg (show ¬ bI true = 0 by decide)]
      by_cases e0 : t.f k = t.s k
      · rw [if_pos e0]
        exact no (by rw [eB, beq_iff_eq.mpr e0]; simp)
      · rw [if_neg e0]
        by_cases e1 : a = b
        · subst e1
          by_cases e2 : t.f k = a
          · have hy := yes hw (by rw [eB, hw]; simp [e0, e2]; intro z; exact e0 (e2.trans z))
            simp [e2, hy]
          · by_cases e3 : t.s k = a
            · have hy := yes hw (by rw [eB, hw]; simp [e3]; rw [← e3]; exact e0)
              simp [e2, e3, hy]
            · have hn := no (by rw [eB, hw]; simp [e2, e3])
              simp [e2, e3, hn]
        · by_cases e2 : t.f k = a
          · by_cases e3 : t.s k = b
            · have hy := yes hw (by rw [eB, hw]; simp [e1, e2, e3])
              simp [e1, e2, e3, hy]
            · have e4 : ¬ t.f k = b := fun z => e1 (e2.symm.trans z)
              have e4' : ¬ a = b := e1
              have hn := no (by rw [eB, hw]; simp [e1, e2, e3])
              simp [e1, e2, e3, hn]
          · by_cases e4 : t.f k = b
            · by_cases e5 : t.s k = a
              · have hy := yes hw (by rw [eB, hw]; simp [e1, e4, e5]; exact fun z => e1 z.symm)
                simp [e1, e4, e5, hy]
              · have hn := no (by rw [eB, hw]; simp [e1, e2, e4, e5]; intro _ z; exact absurd z.symm e1)
                simp [e1, e2, e4, e5, hn]
                exact fun z => absurd z.symm e1
            · have hn := no (by rw [eB, hw]; simp [e1, e2, e4])
              simp [e1, e2, e4, hn]
theorem bs_out (i : IN t) {a b : Nat} : ∀ d, bs t a b (t.nW + d) = bs t a b t.nW
  | 0 => rfl
  | d + 1 => by
    have h : t.wr.testBit (t.nW + d) = false := Nat.testBit_lt_two_pow (Nat.lt_of_lt_of_le i.wr (Nat.pow_le_pow_right (by decide) (by omega)))
    have hB : bwB t a b (t.nW + d) = false := by unfold bwB Nt.Q; rw [h]; rfl
    show bs t a b (t.nW + d) + (if bwB t a b (t.nW + d) = true then t.c (t.nW + d) else 0) = _
    rw [hB, bs_out i d]; rfl
theorem v_between (r : RQ ν t) (i : IN t) (hN : 100 ≤ N) {a b : Nat} (ha : a < 7) (hb : b < 7) : f_L_between N ν (nI a) (nI b) = some (lN (bs t a b 20)) := by
  have hW := i.nW
  have h := v_btw6 (N := N) (K := fun v => some v) r i ha hb t.nW 0 N (by omega) (by omega)
  have e := bs_out i (a := a) (b := b) (20 - t.nW)
  rw [show t.nW + (20 - t.nW) = 20 by omega] at e
  rw [e]
  exact h
/-- the wires' matrix by what lies between -/
theorem Am_bs (a b : Nat) : ∀ m, LA id (lsQ t m) a b = if a = b then (bs t a b m : Int) else - (bs t a b m : Int)
  | 0 => by show (0 : Int) = _; split <;> rfl
  | m + 1 => by
    have ih := Am_bs a b m
    have e1 : bs t a b (m + 1) = bs t a b m + (if bwB t a b m = true then t.c m else 0) := rfl
    have hB : bwB t a b m = (t.Q m && (if a = b then (t.f m == a || t.s m == a) else ((t.f m == a && t.s m == b) || (t.f m == b && t.s m == a)))) := rfl
    unfold lsQ
    cases hq : t.Q m
    · rw [hq] at hB
      rw [e1, hB]
      simpa using ih
    · rw [hq] at hB
      have hne : ¬ t.f m = t.s m := fun e => by unfold Nt.Q at hq; rw [beq_iff_eq.mpr e] at hq; simp at hq
      show LA id (lsQ t m) a b + (t.c m : Int) * ((dlt a (t.f m) - dlt a (t.s m)) * (dlt b (t.f m) - dlt b (t.s m))) = _
      rw [ih, e1, hB]
      have d1 : ∀ x y : Nat, dlt x y = if x = y then 1 else 0 := fun _ _ => rfl
      rw [d1, d1, d1, d1]
      by_cases h : a = b
      · subst h
        by_cases h1 : a = t.f m
        · have h2 : ¬ a = t.s m := fun e => hne (h1.symm.trans e)
          have h1' : t.f m = a := h1.symm
          simp [h1', h2]
        · by_cases h2 : a = t.s m
          · have h2' : t.s m = a := h2.symm
            have h1' : ¬ t.f m = a := fun e => h1 e.symm
            simp [h1, h2', h1']
          · have h1' : ¬ t.f m = a := fun e => h1 e.symm
            have h2' : ¬ t.s m = a := fun e => h2 e.symm
            simp [h1, h2, h1', h2']
      · by_cases h1 : t.f m = a
        · have h1b : ¬ b = t.f m := fun e => h (by rw [e, h1])
          have h1c : ¬ t.f m = b := fun e => h1b e.symm
          have h2 : ¬ a = t.s m := fun e => hne (h1.trans e)
          by_cases h3 : t.s m = b
          · simp [h, h1, h3, h1b]
            rw [if_neg (fun e : b = a => h e.symm)]
            simp
            omega
          · have h3' : ¬ b = t.s m := fun e => h3 e.symm
            simp [h, h1, h3, h3', h2]
            rw [if_neg (fun e : b = a => h e.symm)]
            simp
        · have h1' : ¬ a = t.f m := fun e => h1 e.symm
          by_cases h2 : t.s m = a
          · have h2b : ¬ b = t.s m := fun e => h (by rw [e, h2])
            by_cases h3 : t.f m = b
            · simp [h, h1', h2, h3]
              rw [if_neg (fun e : b = a => h e.symm)]
              simp
              omega
            · have h3' : ¬ b = t.f m := fun e => h3 e.symm
              simp [h, h1, h1', h2, h3, h3']
              rw [if_neg (fun e : b = a => h e.symm)]
              simp
          · have h2' : ¬ a = t.s m := fun e => h2 e.symm
            simp [h, h1, h1', h2, h2']
theorem Am_eq {a b : Nat} (h : a = b) : Am t a b = (bs t a b 20 : Int) := by
  have := Am_bs (t := t) a b 20
  rw [if_pos h] at this
  exact this
theorem Am_ne {a b : Nat} (h : ¬ a = b) : Am t a b = - (bs t a b 20 : Int) := by
  have := Am_bs (t := t) a b 20
  rw [if_neg h] at this
  exact this
end btw2
/-! fractions -/
theorem v_com17 {ρ : Type} {N : Nat} {K : Int64 → Option ρ} : ∀ (k a b n : Nat), b < 2 ^ k → k ≤ 63 → a < 2 ^ 63 → 2 * k + 1 ≤ n → fl_L_common_17 N K n (lN b) (lN a) = K (lN (Nat.gcd a b)) := by
  have hz : ∀ a n : Nat, fl_L_common_17 N K (n + 1) (lN 0) (lN a) = K (lN (Nat.gcd a 0)) := fun a n => by
    rw [fl_L_common_17, if_pos (by decide), Nat.gcd_zero_right]
  have hs : ∀ a b n : Nat, 0 < b → a < 2 ^ 63 → b < 2 ^ 63 → fl_L_common_17 N K (n + 1) (lN b) (lN a) = fl_L_common_17 N K n (lN (a % b)) (lN b) := fun a b n h0 ha hb => by
    have e1 : ¬ lN b = 0 := fun q => by rw [lN_eq0 hb] at q; omega
    rw [fl_L_common_17, if_neg (by rw [lg_cmp_le, lN_le0 hb]; omega)]
    unfold mL
    rw [if_neg e1, lN_mod ha hb h0]
  intro k
  induction k with
  | zero =>
    intro a b n hb _ ha hn
    obtain ⟨n, rfl⟩ : ∃ m, n = m + 1 := ⟨n - 1, by omega⟩
    have : b = 0 := by simpa using hb
    subst this
    exact hz a n
  | succ k ih =>
    intro a b n hb hk ha hn
    obtain ⟨n, rfl⟩ : ∃ m, n = m + 2 := ⟨n - 2, by omega⟩
    have hp : 2 ^ (k + 1) = 2 * 2 ^ k := by rw [Nat.pow_succ]; omega
    have h63 : 2 ^ (k + 1) ≤ 2 ^ 63 := Nat.pow_le_pow_right (by decide) hk
    by_cases h0 : b = 0
    · subst h0
      exact hz a (n + 1)
    · have hr : a % b < b := Nat.mod_lt _ (by omega)
      rw [hs a b (n + 1) (by omega) ha (by omega), gcd_step]
      by_cases hlt : a % b < 2 ^ k
      · exact ih b (a % b) (n + 1) hlt (by omega) (by omega) (by omega)
      · have hrr : b % (a % b) < 2 ^ k := by
          have h1 : b % (a % b) = (b - a % b) % (a % b) := Nat.mod_eq_sub_mod (by omega)
          have h2 : (b - a % b) % (a % b) ≤ b - a % b := Nat.mod_le _ _
          omega
        rw [hs b (a % b) n (by have := Nat.two_pow_pos k; omega) (by omega) (by omega), gcd_step]
        exact ih (a % b) (b % (a % b)) n hrr (by omega) (by omega) (by omega)
theorem v_common {N : Nat} (hN : 200 ≤ N) {u : Int} {l : Nat} (h1 : -2 ^ 63 < u) (h2 : u < 2 ^ 63) (hl : l < 2 ^ 63) : f_L_common N (lZ u) (lN l) = some (lN (Nat.gcd l u.natAbs)) := by
  unfold f_L_common
  simp only [jn_e]
  have key := v_com17 (N := N) (K := fun v3 => some v3) 63 l u.natAbs N (by omega) (by omega) hl (by omega)
  by_cases h : 0 ≤ u
  · rw [if_pos (by rw [lg_cmp_ge, Int64.le_iff_toInt_le, lZ_t h1 h2]; exact h), show lZ u = lN u.natAbs by rw [← lZ_N]; congr 1; omega]
    exact key
  · rw [if_neg (by rw [lg_cmp_ge, Int64.le_iff_toInt_le, lZ_t h1 h2]; exact h), lZ_neg, show lZ (-u) = lN u.natAbs by rw [← lZ_N]; congr 1; omega]
    exact key
/-- a fraction is told so -/
theorem v_is {N : Nat} (hN : 200 ≤ N) {u : Int} {l : Nat} (h1 : -2 ^ 63 < u) (h2 : u < 2 ^ 63) (hl : l < 2 ^ 63) (x y : Int64) : f_L_is N x y (lZ u) (lN l) = some (bI (decide (x = prt u l 0 ∧ y = prt u l 1))) := by
  unfold f_L_is
  by_cases h0 : l = 0
  · subst h0
    have e0 : prt u 0 0 = 0 := if_pos rfl
    have e1 : prt u 0 1 = 0 := if_pos rfl
    rw [if_pos (show lg_cmp (lN 0) 0 = 0 by decide), e0, e1]
    simp only [lg_cmp_eq]
    by_cases hx : x = 0
    · by_cases hy : y = 0
      · rw [if_pos hx, if_pos hy, decide_eq_true ⟨hx, hy⟩]; rfl
      · rw [if_pos hx, if_neg hy, decide_eq_false (fun z => hy z.2)]; rfl
    · rw [if_neg hx, decide_eq_false (fun z => hx z.1)]; rfl
  · have hg : Nat.gcd l u.natAbs < 2 ^ 63 := Nat.lt_of_le_of_lt (Nat.gcd_le_left _ (by omega)) hl
    have hgp : 0 < Nat.gcd l u.natAbs := Nat.gcd_pos_of_pos_left _ (by omega)
    have e2 : ¬ lN (Nat.gcd l u.natAbs) = 0 := fun q => by rw [lN_eq0 hg] at q; omega
    have p0 : prt u l 0 = lZ u / lN (Nat.gcd l u.natAbs) := by unfold prt; rw [if_neg h0, if_pos rfl]
    have p1 : prt u l 1 = lN l / lN (Nat.gcd l u.natAbs) := by unfold prt; rw [if_neg h0, if_neg (by decide)]
    rw [if_neg (by rw [lg_cmp_eq, lN_eq0 hl]; exact h0), v_common hN h1 h2 hl, bP_s]
    unfold dL
    rw [if_neg e2, if_neg e2, p0, p1]
    simp only [lg_cmp_eq]
    by_cases hx : x = lZ u / lN (Nat.gcd l u.natAbs)
    · by_cases hy : y = lN l / lN (Nat.gcd l u.natAbs)
      · rw [if_pos hx, if_pos hy, decide_eq_true ⟨hx, hy⟩]; rfl
      · rw [if_pos hx, if_neg hy, decide_eq_false (fun z => hy z.2)]; rfl
    · rw [if_neg hx, decide_eq_false (fun z => hx z.1)]; rfl
