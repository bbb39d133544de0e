/-! ERASED: digits, and whether two nodes are joined. -/
theorem fsP_congr {p q : Nat → Bool} : ∀ {d k : Nat}, (∀ i, k ≤ i → i < k + d → p i = q i) → fsP p d k = fsP q d k
  | 0, _, _ => rfl
  | d + 1, k, h => by
    unfold fsP
    rw [h k (Nat.le_refl _) (by omega), fsP_congr (fun i h1 h2 => h i (by omega) (by omega))]
/-- whether two nodes are joined -/
def jnd (t : Nt) (a b : Nat) : Bool := !al (fun w => !btw t a b w) 20 0
theorem jnd_iff {t : Nt} {a b : Nat} : jnd t a b = true ↔ ∃ w, w < 20 ∧ btw t a b w = true := by
  unfold jnd
  rw [Bool.not_eq_true', ← Bool.not_eq_true, al_iff]
  constructor
  · intro h
    refine Classical.byContradiction fun q => h (fun i _ hi => ?_)
    cases hb : btw t a b i
    · rfl
    · exact absurd ⟨i, by omega, hb⟩ q
  · rintro ⟨w, h1, h2⟩ h
    have := h w (by omega) (by omega)
    rw [h2] at this
    exact absurd this (by decide)
theorem jnd_fsP {t : Nt} {a b : Nat} : jnd t a b = true ↔ fsP (btw t a b) 20 0 < 20 := by
  obtain ⟨h1, h2, h3, h4⟩ := fsP_spec (btw t a b) 20 0
  rw [jnd_iff]
  constructor
  · rintro ⟨w, hw, hb⟩
    refine Classical.byContradiction fun q => ?_
    rw [h3 w (by omega) (by omega)] at hb
    exact absurd hb (by decide)
  · intro h
    exact ⟨_, h, h4 (by omega)⟩
theorem oI_no {t : Nt} {a b : Nat} (h : jnd t a b = false) : oI (fsP (btw t a b) 20 0) 20 = -1 := if_neg (fun z => by rw [jnd_fsP.mpr z] at h; exact absurd h (by decide))
theorem oI_yes {t : Nt} {a b : Nat} (h : jnd t a b = true) : oI (fsP (btw t a b) 20 0) 20 = nI (fsP (btw t a b) 20 0) := if_pos (jnd_fsP.mp h)
def dg : Nat → Nat → List Nat
  | 0, _ => []
  | f + 1, w => if w = 0 then [] else w % 10 :: dg f (w / 10)
def dd (w j : Nat) : Nat := w / 10 ^ j % 10
theorem dd_succ (w j : Nat) : dd w (j + 1) = dd (w / 10) j := by
  unfold dd
  rw [Nat.pow_succ, Nat.mul_comm, Nat.div_div_eq_div_mul]
theorem dd_zero (w : Nat) : dd w 0 = w % 10 := by
  unfold dd; rw [Nat.pow_zero, Nat.div_one]
theorem dg_mem : ∀ {f w j : Nat}, j < (dg f w).length → dd w j ∈ dg f w
  | 0, w, j, h => absurd h (Nat.not_lt_zero j)
  | f + 1, w, j, h => by
    unfold dg at h ⊢
    by_cases q : w = 0
    · rw [if_pos q] at h; exact absurd h (Nat.not_lt_zero j)
    · rw [if_neg q] at h ⊢
      cases j with
      | zero => rw [dd_zero]; exact List.mem_cons_self
      | succ j =>
        rw [dd_succ]
        exact List.mem_cons_of_mem _ (dg_mem (Nat.lt_of_succ_lt_succ h))
theorem dg_len : ∀ {f w : Nat}, (dg f w).length ≤ f
  | 0, w => Nat.le_refl _
  | f + 1, w => by
    unfold dg
    split
    · exact Nat.zero_le _
    · exact Nat.succ_le_succ dg_len
theorem dg_more : ∀ {f w : Nat}, w < 10 ^ f → dg (f + 1) w = dg f w
  | 0, w, h => by
    have : w = 0 := by simpa using h
    rw [this]; rfl
  | f + 1, w, h => by
    have : w / 10 < 10 ^ f := by rw [Nat.pow_succ] at h; omega
    rw [dg, dg_more this]
    rfl
theorem dg_pos {f w : Nat} (h : 0 < w) : 1 ≤ (dg (f + 1) w).length := by
  unfold dg
  rw [if_neg (by omega)]
  exact Nat.succ_le_succ (Nat.zero_le _)
/-- a digit of no node that is there -/
def bad (t : Nt) (d : Nat) : Bool := !(d == 0) && !t.nd.testBit (d - 1)
theorem lq10 : (10 : Int32) = nI 10 := rfl
theorem lq9 : (9 : Int32) = nI 9 := rfl
theorem mI10 {ρ : Type} {w : Nat} {K : Int32 → Option ρ} (hw : w < 2 ^ 31) : mI (nI w) (nI 10) K = K (nI (w % 10)) := by
  unfold mI
  rw [if_neg (show ¬ nI 10 = 0 by decide), pk_rem hw (by decide) (by decide)]
theorem dI10 {ρ : Type} {w : Nat} {K : Int32 → Option ρ} (hw : w < 2 ^ 31) : dI (nI w) (nI 10) K = K (nI (w / 10)) := by
  unfold dI
  rw [if_neg (show ¬ nI 10 = 0 by decide), pk_div hw (by decide) (by decide)]
theorem nI_is0 {w : Nat} (hw : w < 2 ^ 31) : (nI w ≤ 0) ↔ w = 0 := by
  rw [lq0, nI_leI hw (by omega)]; omega
theorem nI_eq0 {w : Nat} (hw : w < 2 ^ 31) : (nI w = 0) ↔ w = 0 := by
  rw [lq0, nI_eq hw (by omega)]
theorem nI_m (d : Nat) (h : d ≠ 0) : nI d - 1 = nI (d - 1) := by
  obtain ⟨e, rfl⟩ : ∃ e, d = e + 1 := ⟨d - 1, by omega⟩
  exact nI_pred e
theorem any_cons (p : Nat → Bool) (x : Nat) (L : List Nat) : (x :: L).any p = (p x || L.any p) := rfl
section digits
variable {N : Nat} {σ τ : Wd} {t : Nt}
theorem v_lb0 (r : RN σ t) (i : IN t) (hN : 100 ≤ N) {a b : Nat} (ha : a < 7) (hb : b < 7) : f_X4_lowestBetween N σ (nI a) (nI b) (-1) = some (oI (fsP (btw t a b) 20 0) 20) := by
  rw [v_lowestBetween r i hN ha hb, fsP_congr (q := btw t a b) (fun w _ hw => by
    rw [decide_eq_false (by rw [nI_m1 (by omega)]; exact id)]; simp)]
theorem v_areJoined (r : RM τ t) (i : IN t) (hN : 100 ≤ N) {a b : Nat} (ha : a < 7) (hb : b < 7) : f_X8_areJoined N τ (nI a) (nI b) = some (bI (jnd t a b)) := by
  have hw20 := i.wr20
  have hnW := i.nW
  have go : ∀ d k n (x : Bool), k + d = t.nW → d < n → fl_X8_areJoined_5 N τ (nI a) (nI b) (fun v9 => zb v9 (some v9)) n (bI x) (nI k) = some (bI (x || !al (fun w => !btw t a b w) d k)) := by
    intro d
    induction d with
    | zero =>
      intro k n x hk hn
      obtain ⟨n, rfl⟩ : ∃ m, n = m + 1 := ⟨n - 1, by omega⟩
      rw [fl_X8_areJoined_5]
      simp only [gI, r.nW]
      rw [if_pos (nI_le (by omega) (by omega)), zb_bI]
      show _ = some (bI (x || !true))
      cases x <;> rfl
    | succ d ih =>
      intro k n x hk hn
      obtain ⟨n, rfl⟩ : ∃ m, n = m + 1 := ⟨n - 1, by omega⟩
      have hf := i.fb k
      have hs := i.sb k
      have e0 : al (fun w => !btw t a b w) (d + 1) k = (!btw t a b k && al (fun w => !btw t a b w) d (k + 1)) := rfl
      have one : fl_X8_areJoined_5 N τ (nI a) (nI b) (fun v9 => zb v9 (some v9)) n 1 (nI (k + 1)) = some (bI true) := by
        have := ih (k + 1) n true (by omega) (by omega)
        rw [bI_t, Bool.true_or] at this; exact this
      have two : fl_X8_areJoined_5 N τ (nI a) (nI b) (fun v9 => zb v9 (some v9)) n 0 (nI (k + 1)) = some (bI (!al (fun w => !btw t a b w) d (k + 1))) := by
        have := ih (k + 1) n false (by omega) (by omega)
        rw [bI_f, Bool.false_or] at this; exact this
      rw [fl_X8_areJoined_5]
      simp only [gI, r.nW]
      rw [if_neg (nI_ge (by omega) (by omega))]
      simp only [jn_e, nI_1]
      cases x
      · have yes : btw t a b k = true → (some (bI true) : Option Int32) = some (bI (false || !al (fun w => !btw t a b w) (d + 1) k)) := fun h => by rw [e0, h]; rfl
        have no : btw t a b k = false → (some (bI (!al (fun w => !btw t a b w) d (k + 1))) : Option Int32) = some (bI (false || !al (fun w => !btw t a b w) (d + 1) k)) := fun h => by rw [e0, h]; rfl
        rw [if_pos (show bI false = 0 from rfl), one, two]
        simp (disch := omega) only [r.wr, v_isIn8, bP_s, if_bI0, rI_n, r.f k (by omega), r.s k (by omega), nI_eq]
        cases hw : t.wr.testBit k
        · exact no (by unfold btw; rw [hw, Bool.and_false])
        · simp only [if_true]
          have hy : ends t a b k = true → btw t a b k = true := fun h => by unfold btw; rw [h, hw]; rfl
          have hn : ¬ ends t a b k = true → btw t a b k = false := fun h => by unfold btw; rw [Bool.eq_false_iff.mpr h]; rfl
          by_cases q1 : t.f k = a
          · rw [if_pos q1]
            by_cases q2 : t.s k = b
            · rw [if_pos q2]; exact yes (hy (ends_iff.mpr (Or.inl ⟨q1, q2⟩)))
            · rw [if_neg q2]
              by_cases q3 : t.f k = b
              · rw [if_pos q3]
                by_cases q4 : t.s k = a
                · rw [if_pos q4]; exact yes (hy (ends_iff.mpr (Or.inr ⟨q3, q4⟩)))
                · rw [if_neg q4]; exact no (hn (fun z => by rcases ends_iff.mp z with ⟨z1, z2⟩ | ⟨z1, z2⟩ <;> contradiction))
              · rw [if_neg q3]; exact no (hn (fun z => by rcases ends_iff.mp z with ⟨z1, z2⟩ | ⟨z1, z2⟩ <;> contradiction))
          · rw [if_neg q1]
            by_cases q3 : t.f k = b
            · rw [if_pos q3]
              by_cases q4 : t.s k = a
              · rw [if_pos q4]; exact yes (hy (ends_iff.mpr (Or.inr ⟨q3, q4⟩)))
              · rw [if_neg q4]; exact no (hn (fun z => by rcases ends_iff.mp z with ⟨z1, z2⟩ | ⟨z1, z2⟩ <;> contradiction))
            · rw [if_neg q3]; exact no (hn (fun z => by rcases ends_iff.mp z with ⟨z1, z2⟩ | ⟨z1, z2⟩ <;> contradiction))
      · rw [if_neg (show ¬ bI true = 0 by decide), one, Bool.true_or]
  have h := go t.nW 0 N false (by omega) (by omega)
  refine h.trans ?_
  congr 2
  rw [Bool.false_or]
  unfold jnd
  congr 1
  apply Bool.eq_iff_iff.mpr
  rw [al_iff, al_iff]
  constructor
  · intro q w h1 h2
    rcases Nat.lt_or_ge w t.nW with z | z
    · exact q w h1 (by omega)
    · have : t.wr.testBit w = false := Nat.testBit_lt_two_pow (Nat.lt_of_lt_of_le i.wr (Nat.pow_le_pow_right (by decide) z))
      unfold btw
      rw [this, Bool.and_false]; rfl
  · intro q w h1 h2
    exact q w h1 (by omega)
theorem v_strange (r : RN σ t) (i : IN t) : ∀ f w n, w < 10 ^ f → w < 2 ^ 31 → f ≤ 10 → f < n → fl_X6_hasStrangeNode_4 N σ (fun (_ : Unit) => some 0) n (nI w) (nI (10 - f)) = some (bI ((dg f w).any (bad t))) := by
  have h7 := i.nd7
  intro f
  induction f with
  | zero =>
    intro w n hw _ hf hn
    obtain ⟨n, rfl⟩ : ∃ m, n = m + 1 := ⟨n - 1, by omega⟩
    rw [fl_X6_hasStrangeNode_4, lq10, if_pos (nI_le (Nat.le_refl _) (by omega))]
    rfl
  | succ f ih =>
    intro w n hw hw31 hf hn
    obtain ⟨n, rfl⟩ : ∃ m, n = m + 1 := ⟨n - 1, by omega⟩
    rw [fl_X6_hasStrangeNode_4, lq10, if_neg (nI_ge (by omega) (by omega)), dg]
    by_cases q : w = 0
    · rw [if_pos ((nI_is0 hw31).mpr q), if_pos q]; rfl
    · have hnext := ih (w / 10) n (by rw [Nat.pow_succ] at hw; omega) (by omega) (by omega) (by omega)
      rw [if_neg (fun z => q ((nI_is0 hw31).mp z)), if_neg q, mI10 hw31]
      simp only [jn_e]
      rw [dI10 hw31, nI_1, show 10 - (f + 1) + 1 = 10 - f by omega, hnext, any_cons]
      by_cases q2 : w % 10 = 0
      · rw [if_pos ((nI_eq0 (by omega)).mpr q2), q2]; rfl
      · rw [if_neg (fun z => q2 ((nI_eq0 (by omega)).mp z)), mI10 hw31, nI_m _ q2, v_hasNode r i, bP_s, if_bI0, inS_n (by omega)]
        unfold bad
        rw [beq_false_of_ne q2]
        cases t.nd.testBit (w % 10 - 1) <;> rfl
theorem v_hasZero : ∀ f w n, w < 10 ^ f → w < 2 ^ 31 → f ≤ 10 → f < n → fl_X6_hasZero_4 N (fun (_ : Unit) => some 0) n (nI w) (nI (10 - f)) = some (bI ((dg f w).any (fun d => d == 0))) := by
  intro f
  induction f with
  | zero =>
    intro w n hw _ hf hn
    obtain ⟨n, rfl⟩ : ∃ m, n = m + 1 := ⟨n - 1, by omega⟩
    rw [fl_X6_hasZero_4, lq10, if_pos (nI_le (Nat.le_refl _) (by omega))]
    rfl
  | succ f ih =>
    intro w n hw hw31 hf hn
    obtain ⟨n, rfl⟩ : ∃ m, n = m + 1 := ⟨n - 1, by omega⟩
    rw [fl_X6_hasZero_4, lq10, if_neg (nI_ge (by omega) (by omega)), dg]
    by_cases q : w = 0
    · rw [if_pos ((nI_is0 hw31).mpr q), if_pos q]; rfl
    · have hnext := ih (w / 10) n (by rw [Nat.pow_succ] at hw; omega) (by omega) (by omega) (by omega)
      rw [if_neg (fun z => q ((nI_is0 hw31).mp z)), if_neg q, mI10 hw31, any_cons]
      by_cases q2 : w % 10 = 0
      · rw [if_pos ((nI_eq0 (by omega)).mpr q2), q2]; rfl
      · rw [if_neg (fun z => q2 ((nI_eq0 (by omega)).mp z)), dI10 hw31, nI_1, show 10 - (f + 1) + 1 = 10 - f by omega, hnext, beq_false_of_ne q2]; rfl
def wrt (w : Nat) : Bool := decide (1 ≤ w ∧ w ≤ 999999999) && !(dg 10 w).any (fun d => d == 0)
theorem v_isWritten (hN : 100 ≤ N) {w : Nat} (hw : w < 2 ^ 31) : f_X6_isWritten N (nI w) = some (bI (wrt w)) := by
  unfold f_X6_isWritten f_X6_hasZero wrt
  have h := v_hasZero (N := N) 10 w N (by omega) hw (by omega) (by omega)
  rw [show nI (10 - 10) = 0 from rfl] at h
  rw [h, bP_s, if_bI0]
  by_cases q1 : w = 0
  · rw [q1, if_pos (by decide)]; rfl
  · rw [if_neg (show ¬ nI w < 1 from nI_nlt (b := 1) (by omega) hw)]
    by_cases q2 : w ≤ 999999999
    · rw [if_neg (show ¬ (999999999 : Int32) < nI w from nI_nlt (a := 999999999) q2 (by omega)), decide_eq_true ⟨by omega, q2⟩, Bool.true_and]
      cases (dg 10 w).any (fun d => d == 0) <;> rfl
    · rw [if_pos (show (999999999 : Int32) < nI w from nI_lt (a := 999999999) (by omega) hw), decide_eq_false (fun z => q2 z.2)]; rfl
theorem v_read4 {ρ : Type} {K : Int32 → Option ρ} {x : Int32} : ∀ f w n, w < 10 ^ f → w < 2 ^ 31 → f ≤ 9 → f < n → fl_X6_read_4 N σ x K n (nI (9 - f)) (nI w) = K (nI (9 - f + (dg f w).length)) := by
  intro f
  induction f with
  | zero =>
    intro w n hw _ hf hn
    obtain ⟨n, rfl⟩ : ∃ m, n = m + 1 := ⟨n - 1, by omega⟩
    rw [fl_X6_read_4, lq9, if_pos (nI_le (Nat.le_refl _) (by omega))]
    rfl
  | succ f ih =>
    intro w n hw hw31 hf hn
    obtain ⟨n, rfl⟩ : ∃ m, n = m + 1 := ⟨n - 1, by omega⟩
    rw [fl_X6_read_4, lq9, if_neg (nI_ge (by omega) (by omega)), dg]
    by_cases q : w = 0
    · rw [if_pos ((nI_is0 hw31).mpr q), if_pos q]; rfl
    · rw [if_neg (fun z => q ((nI_is0 hw31).mp z)), if_neg q, lq10, dI10 hw31, nI_1, show 9 - (f + 1) + 1 = 9 - f by omega, ih (w / 10) n (by rw [Nat.pow_succ] at hw; omega) (by omega) (by omega) (by omega)]
      congr 2
      show _ = 9 - (f + 1) + ((dg f (w / 10)).length + 1)
      omega
theorem m1_eq (x : Int32) : x + (-1) = x - 1 := by
  rw [Int32.sub_eq_add_neg]
theorem v_read32 {ρ : Type} {K : Wd → Option ρ} {x : Int32} : ∀ k w n (s : Wd), k ≤ 9 → k < n → w < 2 ^ 31 →
    ∃ s', fl_X6_read_32 N x K n (nI w) (nI k - 1) s = K s' ∧ (∀ j, j < k → s'.1 27 j = nI (dd w (k - 1 - j)) - 1) ∧ (∀ p, p ≠ 27 → s'.1 p = s.1 p) ∧ (∀ j, k ≤ j → s'.1 27 j = s.1 27 j) ∧ s'.2 = s.2 := by
  intro k
  induction k with
  | zero =>
    intro w n s hk hn hw
    obtain ⟨n, rfl⟩ : ∃ m, n = m + 1 := ⟨n - 1, by omega⟩
    refine ⟨s, ?_, fun j hj => absurd hj (Nat.not_lt_zero j), fun p _ => rfl, fun j _ => rfl, rfl⟩
    rw [fl_X6_read_32, if_pos (by decide)]
  | succ k ih =>
    intro w n s hk hn hw
    obtain ⟨n, rfl⟩ : ∃ m, n = m + 1 := ⟨n - 1, by omega⟩
    obtain ⟨s', e1, g1, g2, g3, g4⟩ := ih (w / 10) n (sI s 27 k (nI (w % 10) - 1)) (by omega) (by omega) (by omega)
    refine ⟨s', ?_, fun j hj => ?_, fun p hp => ?_, fun j hj => ?_, g4⟩
    · rw [fl_X6_read_32, nI_pred, if_neg (nI_pos (by omega)), lq10, mI10 hw, aI_n (by omega) (by omega), dI10 hw, m1_eq]
      exact e1
    · by_cases e : j = k
      · subst e
        rw [g3 j (Nat.le_refl _), sI_same, show j + 1 - 1 - j = 0 by omega, dd_zero]
      · rw [g1 j (by omega), show k + 1 - 1 - j = (k - 1 - j) + 1 by omega, dd_succ]
    · rw [g2 p hp, sI_place hp]
    · rw [g3 j (by omega), sI_slot (by omega)]
end digits
