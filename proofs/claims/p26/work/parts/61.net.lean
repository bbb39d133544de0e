/-! THE NETWORK AS NUMBERS: what the class's cells hold of it, and what the small calls on it answer. -/
theorem lq0 : (0 : Int32) = nI 0 := rfl
theorem lq1 : (1 : Int32) = nI 1 := rfl
theorem lq2 : (2 : Int32) = nI 2 := rfl
theorem lq3 : (3 : Int32) = nI 3 := rfl
theorem lq6 : (6 : Int32) = nI 6 := rfl
theorem lq7 : (7 : Int32) = nI 7 := rfl
theorem lq8 : (8 : Int32) = nI 8 := rfl
theorem lq20 : (20 : Int32) = nI 20 := rfl
theorem lq60 : (60 : Int32) = nI 60 := rfl
theorem lt0 {j : Nat} (h : j < 2 ^ 31) : (nI j < 0) = False := eq_false (nI_pos h)
theorem p31 : 2 ^ 31 = 2147483648 := by decide
/-- membership of an int in a set -/
def inS (S : Nat) (x : Int32) : Bool := !(decide (x < 0)) && S.testBit x.toNatClampNeg
theorem inS_n {S j : Nat} (h : j < 2 ^ 31) : inS S (nI j) = S.testBit j := by
  have h1 : ¬ nI j < 0 := nI_pos h
  simp only [inS, nI_clamp h, h1, decide_false, Bool.not_false, Bool.true_and]
theorem inS_neg {S : Nat} {x : Int32} (h : x < 0) : inS S x = false := by
  simp only [inS, h, decide_true, Bool.not_true, Bool.false_and]
theorem inS_big {S n : Nat} {x : Int32} (hS : S < 2 ^ n) (hn : n < 2 ^ 31) (h : nI n ≤ x) : inS S x = false := by
  by_cases h0 : x < 0
  · exact inS_neg h0
  · obtain ⟨j, hj, rfl⟩ := nI_of h0
    rw [inS_n hj]
    have h2 := (nI_leI hn hj).mp h
    exact Nat.testBit_lt_two_pow (Nat.lt_of_lt_of_le hS (Nat.pow_le_pow_right (by decide) h2))
theorem inS_elim {S n : Nat} {x : Int32} (hS : S < 2 ^ n) (hn : n < 2 ^ 31) (h : inS S x = true) : ∃ j, j < n ∧ x = nI j ∧ S.testBit j = true := by
  rcases pk_ix x hn with q | q | ⟨j, hj, rfl⟩
  · rw [inS_neg q] at h; exact absurd h (by decide)
  · rw [inS_big hS hn q] at h; exact absurd h (by decide)
  · rw [inS_n (by omega)] at h; exact ⟨j, hj, rfl, h⟩
/-- nodes there, edges, wires there, how many ever; ends and conductances -/
def Nt : Type := (Nat × Nat × Nat × Nat × Nat) × (Nat → Nat) × (Nat → Nat) × (Nat → Nat)
def Nt.mk (nd ed wr nN nW : Nat) (f s c : Nat → Nat) : Nt := ((nd, ed, wr, nN, nW), f, s, c)
def Nt.nd (t : Nt) : Nat := t.1.1
def Nt.ed (t : Nt) : Nat := t.1.2.1
def Nt.wr (t : Nt) : Nat := t.1.2.2.1
def Nt.nN (t : Nt) : Nat := t.1.2.2.2.1
def Nt.nW (t : Nt) : Nat := t.1.2.2.2.2
def Nt.f (t : Nt) : Nat → Nat := t.2.1
def Nt.s (t : Nt) : Nat → Nat := t.2.2.1
def Nt.c (t : Nt) : Nat → Nat := t.2.2.2
abbrev IN (t : Nt) : Prop := (t.nN ≤ 7) ∧ (t.nW ≤ 20) ∧ (t.nd < 2 ^ t.nN) ∧ (t.ed < 2 ^ t.nN) ∧ (∀ i, t.ed.testBit i = true → t.nd.testBit i = true) ∧ (t.wr < 2 ^ t.nW) ∧ (∀ w, t.f w < 7) ∧ (∀ w, t.s w < 7) ∧ (∀ w, t.wr.testBit w = true → t.nd.testBit (t.f w) = true ∧ t.nd.testBit (t.s w) = true) ∧ (∀ w, t.wr.testBit w = true → 1 ≤ t.c w ∧ t.c w ≤ 60) ∧ (pc t.wr ≤ 12)
theorem IN.nN {t : Nt} (h : IN t) : t.nN ≤ 7 := h.1
theorem IN.nW {t : Nt} (h : IN t) : t.nW ≤ 20 := h.2.1
theorem IN.nd {t : Nt} (h : IN t) : t.nd < 2 ^ t.nN := h.2.2.1
theorem IN.ed {t : Nt} (h : IN t) : t.ed < 2 ^ t.nN := h.2.2.2.1
theorem IN.edn {t : Nt} (h : IN t) : ∀ i, t.ed.testBit i = true → t.nd.testBit i = true := h.2.2.2.2.1
theorem IN.wr {t : Nt} (h : IN t) : t.wr < 2 ^ t.nW := h.2.2.2.2.2.1
theorem IN.fb {t : Nt} (h : IN t) : ∀ w, t.f w < 7 := h.2.2.2.2.2.2.1
theorem IN.sb {t : Nt} (h : IN t) : ∀ w, t.s w < 7 := h.2.2.2.2.2.2.2.1
theorem IN.wf {t : Nt} (h : IN t) : ∀ w, t.wr.testBit w = true → t.nd.testBit (t.f w) = true ∧ t.nd.testBit (t.s w) = true := h.2.2.2.2.2.2.2.2.1
theorem IN.cb {t : Nt} (h : IN t) : ∀ w, t.wr.testBit w = true → 1 ≤ t.c w ∧ t.c w ≤ 60 := h.2.2.2.2.2.2.2.2.2.1
theorem IN.few {t : Nt} (h : IN t) : pc t.wr ≤ 12 := h.2.2.2.2.2.2.2.2.2.2
theorem p7 {a n : Nat} (h : a < 2 ^ n) (hn : n ≤ 7) : a < 128 := Nat.lt_of_lt_of_le h (show 2 ^ n ≤ 2 ^ 7 from Nat.pow_le_pow_right (by decide) hn)
theorem p20 {a n : Nat} (h : a < 2 ^ n) (hn : n ≤ 20) : a < 1048576 := Nat.lt_of_lt_of_le h (show 2 ^ n ≤ 2 ^ 20 from Nat.pow_le_pow_right (by decide) hn)
theorem IN.nd7 {t : Nt} (h : IN t) : t.nd < 128 := p7 h.nd h.nN
theorem IN.ed7 {t : Nt} (h : IN t) : t.ed < 128 := p7 h.ed h.nN
theorem IN.wr20 {t : Nt} (h : IN t) : t.wr < 1048576 := p20 h.wr h.nW
theorem bit7 {a i : Nat} (h : a < 128) (hb : a.testBit i = true) : i < 7 := bit_lt (n := 7) h hb
theorem bit20 {a i : Nat} (h : a < 1048576) (hb : a.testBit i = true) : i < 20 := bit_lt (n := 20) h hb
/-- what the class's cells hold of it -/
abbrev RN (σ : Wd) (t : Nt) : Prop := (σ.1 1 0 = nI t.nd) ∧ (σ.1 1 1 = nI t.ed) ∧ (σ.1 1 2 = nI t.wr) ∧ (σ.1 1 3 = nI t.nN) ∧ (σ.1 1 4 = nI t.nW) ∧ (∀ w, w < 20 → σ.1 2 w = nI (t.f w)) ∧ (∀ w, w < 20 → σ.1 3 w = nI (t.s w)) ∧ (∀ w, w < t.nW → σ.1 4 w = nI (t.c w))
theorem RN.nd {σ : Wd} {t : Nt} (h : RN σ t) : σ.1 1 0 = nI t.nd := h.1
theorem RN.ed {σ : Wd} {t : Nt} (h : RN σ t) : σ.1 1 1 = nI t.ed := h.2.1
theorem RN.wr {σ : Wd} {t : Nt} (h : RN σ t) : σ.1 1 2 = nI t.wr := h.2.2.1
theorem RN.nN {σ : Wd} {t : Nt} (h : RN σ t) : σ.1 1 3 = nI t.nN := h.2.2.2.1
theorem RN.nW {σ : Wd} {t : Nt} (h : RN σ t) : σ.1 1 4 = nI t.nW := h.2.2.2.2.1
theorem RN.f {σ : Wd} {t : Nt} (h : RN σ t) : ∀ w, w < 20 → σ.1 2 w = nI (t.f w) := h.2.2.2.2.2.1
theorem RN.s {σ : Wd} {t : Nt} (h : RN σ t) : ∀ w, w < 20 → σ.1 3 w = nI (t.s w) := h.2.2.2.2.2.2.1
theorem RN.c {σ : Wd} {t : Nt} (h : RN σ t) : ∀ w, w < t.nW → σ.1 4 w = nI (t.c w) := h.2.2.2.2.2.2.2
theorem RN.same {σ σ' : Wd} {t : Nt} (h : RN σ t) (h1 : ∀ p, 1 ≤ p → p ≤ 4 → σ'.1 p = σ.1 p) : RN σ' t :=
  ⟨by rw [h1 1 (by omega) (by omega)]; exact h.nd, by rw [h1 1 (by omega) (by omega)]; exact h.ed, by rw [h1 1 (by omega) (by omega)]; exact h.wr, by rw [h1 1 (by omega) (by omega)]; exact h.nN, by rw [h1 1 (by omega) (by omega)]; exact h.nW,
   by rw [h1 2 (by omega) (by omega)]; exact h.f, by rw [h1 3 (by omega) (by omega)]; exact h.s, by rw [h1 4 (by omega) (by omega)]; exact h.c⟩
section net
variable {N : Nat} {σ : Wd} {t : Nt}
theorem v_hasNode (r : RN σ t) (i : IN t) (x : Int32) : f_X4_hasNode N σ x = some (bI (inS t.nd x)) := by
  have h7 := i.nd7
  unfold f_X4_hasNode
  rcases pk_ix x (n := 7) (by omega) with q | q | ⟨j, hj, rfl⟩
  · rw [if_pos q, inS_neg q]; rfl
  · rw [inS_big (n := 7) (S := t.nd) (by omega) (by omega) q]
    by_cases h0 : x < 0
    · rw [if_pos h0]; rfl
    · rw [if_neg h0, lq7, if_pos q]; rfl
  · rw [inS_n (by omega)]
    simp (disch := omega) only [lq0, lq7, nI_leI, nI_ltI, if_neg, gI, r.nd, v_isIn, bP_s]
    cases t.nd.testBit j <;> rfl
theorem v_hasEdge (r : RN σ t) (i : IN t) (x : Int32) : f_X4_hasEdge N σ x = some (bI (inS t.ed x)) := by
  have h7 := i.nd7
  have h7' := i.ed7
  unfold f_X4_hasEdge
  rw [v_hasNode r i, bP_s, if_bI0]
  cases hx : inS t.nd x
  · have : inS t.ed x = false := by
      cases hy : inS t.ed x
      · rfl
      · obtain ⟨j, hj, rfl, hb⟩ := inS_elim (n := 7) (by omega) (by omega) hy
        rw [inS_n (by omega), i.edn j hb] at hx
        exact absurd hx (by decide)
    rw [this]; rfl
  · obtain ⟨j, hj, rfl, hb⟩ := inS_elim (n := 7) (by omega) (by omega) hx
    simp (disch := omega) only [gI, r.ed, v_isIn, bP_s, if_true, inS_n]
    rw [if_bI0, bI_if]
theorem v_hasWire (r : RN σ t) (i : IN t) (x : Int32) : f_X4_hasWire N σ x = some (bI (inS t.wr x)) := by
  have h7 := i.wr20
  unfold f_X4_hasWire
  rcases pk_ix x (n := 20) (by omega) with q | q | ⟨j, hj, rfl⟩
  · rw [if_pos q, inS_neg q]; rfl
  · rw [inS_big (n := 20) (S := t.wr) (by omega) (by omega) q]
    by_cases h0 : x < 0
    · rw [if_pos h0]; rfl
    · rw [if_neg h0, lq20, if_pos q]; rfl
  · rw [inS_n (by omega)]
    simp (disch := omega) only [lq0, lq20, nI_leI, nI_ltI, if_neg, gI, r.wr, v_isIn, bP_s]
    cases t.wr.testBit j <;> rfl
theorem v_firstOf (r : RN σ t) {w : Nat} (h : w < 20) : f_X4_firstOf N σ (nI w) = some (nI (t.f w)) := by
  unfold f_X4_firstOf
  simp (disch := omega) only [lq0, lq20, nI_leI, nI_ltI, if_neg, rI_n, r.f w h]
theorem v_secondOf (r : RN σ t) {w : Nat} (h : w < 20) : f_X4_secondOf N σ (nI w) = some (nI (t.s w)) := by
  unfold f_X4_secondOf
  simp (disch := omega) only [lq0, lq20, nI_leI, nI_ltI, if_neg, rI_n, r.s w h]
theorem v_conductanceOf (r : RN σ t) {w : Nat} (h : w < 20) (hw : w < t.nW) : f_X4_conductanceOf N σ (nI w) = some (nI (t.c w)) := by
  unfold f_X4_conductanceOf
  simp (disch := omega) only [lq0, lq20, nI_leI, nI_ltI, if_neg, rI_n, r.c w hw]
theorem v_isRing (r : RN σ t) (i : IN t) {w : Nat} (h : w < 20) : f_X4_isRing N σ (nI w) = some (bI (t.f w == t.s w)) := by
  have h1 := i.fb w
  have h2 := i.sb w
  unfold f_X4_isRing
  rw [v_firstOf r h, v_secondOf r h, bP_s, bP_s]
  simp (disch := omega) only [nI_eq]
  by_cases q : t.f w = t.s w
  · rw [if_pos q, beq_iff_eq.mpr q]; rfl
  · rw [if_neg q, beq_false_of_ne q]; rfl
theorem v_isAt (r : RN σ t) (i : IN t) {w n : Nat} (h : w < 20) (hn : n < 7) : f_X4_isAt N σ (nI w) (nI n) = some (bI (t.f w == n || t.s w == n)) := by
  have h1 := i.fb w
  have h2 := i.sb w
  unfold f_X4_isAt
  rw [v_firstOf r h, v_secondOf r h, bP_s, bP_s]
  simp (disch := omega) only [nI_eq]
  by_cases q : t.f w = n
  · rw [if_pos q, beq_iff_eq.mpr q]; rfl
  · rw [if_neg q, beq_false_of_ne q]
    by_cases q : t.s w = n
    · rw [if_pos q, beq_iff_eq.mpr q]; rfl
    · rw [if_neg q, beq_false_of_ne q]; rfl
/-- the other end -/
def Nt.far (t : Nt) (w n : Nat) : Nat := if t.f w = n then t.s w else t.f w
theorem v_farEndOf (r : RN σ t) (i : IN t) {w n : Nat} (h : w < 20) (hn : n < 7) : f_X4_farEndOf N σ (nI w) (nI n) = some (nI (t.far w n)) := by
  have h1 := i.fb w
  unfold f_X4_farEndOf Nt.far
  rw [v_firstOf r h, v_secondOf r h, bP_s, bP_s, bP_s]
  simp (disch := omega) only [nI_eq]
  by_cases q : t.f w = n
  · rw [if_pos q, if_pos q]
  · rw [if_neg q, if_neg q]
/-- the lowest node, or 7 -/
def low (S : Nat) : Nat → Nat → Nat
  | 0, k => k
  | n + 1, k => if S.testBit k then k else low S n (k + 1)
def oI (k n : Nat) : Int32 := if k < n then nI k else -1
theorem low_spec (S : Nat) : ∀ n k, k ≤ low S n k ∧ low S n k ≤ k + n ∧ (∀ i, k ≤ i → i < low S n k → S.testBit i = false) ∧ (low S n k < k + n → S.testBit (low S n k) = true)
  | 0, k => ⟨Nat.le_refl _, Nat.le_refl _, fun i h1 h2 => absurd h2 (by show ¬ i < k; omega), fun h => absurd h (by show ¬ k < k + 0; omega)⟩
  | n + 1, k => by
    unfold low
    cases h : S.testBit k
    · simp only [Bool.false_eq_true, if_false]
      obtain ⟨h1, h2, h3, h4⟩ := low_spec S n (k + 1)
      refine ⟨by omega, by omega, fun i hi hl => ?_, fun hl => h4 (by omega)⟩
      rcases Nat.lt_or_ge k i with q | q
      · exact h3 i q hl
      · have : i = k := by omega
        rw [this]; exact h
    · simp only [if_true]
      exact ⟨Nat.le_refl _, by omega, fun i h1 h2 => absurd h2 (by omega), fun _ => h⟩
theorem v_lowestNode (r : RN σ t) (i : IN t) (hN : 100 ≤ N) : f_X4_lowestNode N σ = some (oI (low t.nd 7 0) 7) := by
  have go : ∀ d n k, k + d = 7 → d < n → fl_X4_lowestNode_2 N σ (fun (_ : Unit) => some (-1)) n (nI k) = some (oI (low t.nd d k) 7) := by
    intro d
    induction d with
    | zero =>
      intro n k hk hn
      obtain ⟨n, rfl⟩ : ∃ m, n = m + 1 := ⟨n - 1, by omega⟩
      rw [fl_X4_lowestNode_2]
      simp (disch := omega) only [lq7, nI_leI, if_pos]
      show _ = some (if k < 7 then _ else _)
      rw [if_neg (by omega)]
    | succ d ih =>
      intro n k hk hn
      obtain ⟨n, rfl⟩ : ∃ m, n = m + 1 := ⟨n - 1, by omega⟩
      rw [fl_X4_lowestNode_2]
      simp (disch := omega) only [lq7, nI_leI, if_neg]
      rw [v_hasNode r i, bP_s, if_bI0, inS_n (by omega), nI_1, ih n (k + 1) (by omega) (by omega)]
      show _ = some (oI (if t.nd.testBit k then k else low t.nd d (k + 1)) 7)
      cases t.nd.testBit k
      · rfl
      · show some (nI k) = some (if k < 7 then _ else _)
        rw [if_pos (by omega)]
        rfl
  exact go 7 N 0 (by omega) (by omega)
end net
