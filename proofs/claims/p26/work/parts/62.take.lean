/-! THE CLASS'S TREES AS SETS: what is joined, as a set of nodes, and the taking of a wire. -/
noncomputable def bset (p : Nat → Prop) : Nat → Nat
  | 0 => 0
  | n + 1 => bset p n ||| iC (p n) (2 ^ n) 0
theorem bset_bit {p : Nat → Prop} : ∀ {n j : Nat}, (bset p n).testBit j = true ↔ j < n ∧ p j
  | 0, j => by simp [bset]
  | n + 1, j => by
    unfold bset
    rw [Nat.testBit_or, Bool.or_eq_true, bset_bit]
    by_cases h : p n
    · rw [iC_pos h, Nat.testBit_two_pow, decide_eq_true_eq]
      constructor
      · rintro (⟨h1, h2⟩ | rfl)
        · exact ⟨by omega, h2⟩
        · exact ⟨by omega, h⟩
      · rintro ⟨h1, h2⟩
        rcases Nat.lt_or_ge j n with q | q
        · exact Or.inl ⟨q, h2⟩
        · exact Or.inr (by omega)
    · rw [iC_neg h, Nat.zero_testBit]
      constructor
      · rintro (⟨h1, h2⟩ | h1)
        · exact ⟨by omega, h2⟩
        · exact absurd h1 (by decide)
      · rintro ⟨h1, h2⟩
        refine Or.inl ⟨?_, h2⟩
        rcases Nat.lt_or_ge j n with q | q
        · exact q
        · exact absurd (show j = n by omega) (fun e => h (e ▸ h2))
theorem bset_lt (p : Nat → Prop) (n : Nat) : bset p n < 2 ^ n := lt_of_bits (fun i h => (bset_bit.mp h).1)
theorem set_ext {A B n : Nat} (hA : A < 2 ^ n) (hB : B < 2 ^ n) (h : ∀ i, i < n → (A.testBit i = true ↔ B.testBit i = true)) : A = B := by
  apply Nat.eq_of_testBit_eq
  intro i
  by_cases hi : i < n
  · exact Bool.eq_iff_iff.mpr (h i hi)
  · have h1 : A.testBit i = false := Nat.testBit_lt_two_pow (Nat.lt_of_lt_of_le hA (Nat.pow_le_pow_right (by decide) (by omega)))
    have h2 : B.testBit i = false := Nat.testBit_lt_two_pow (Nat.lt_of_lt_of_le hB (Nat.pow_le_pow_right (by decide) (by omega)))
    rw [h1, h2]
/-- the tree of a node -/
noncomputable def cs (T : List Ed) (i : Nat) : Nat := bset (Cn T i) 7
theorem cs_bit {T : List Ed} {i j : Nat} : (cs T i).testBit j = true ↔ j < 7 ∧ Cn T i j := bset_bit
theorem cs_lt (T : List Ed) (i : Nat) : cs T i < 128 := bset_lt _ 7
theorem cs_nil {i : Nat} (h : i < 7) : cs [] i = 2 ^ i := by
  refine set_ext (n := 7) (cs_lt _ _) (Nat.pow_lt_pow_right (by decide) h) (fun j hj => ?_)
  rw [cs_bit, Cn_nil, Nat.testBit_two_pow, decide_eq_true_eq]
  exact ⟨fun h => h.2, fun h => ⟨hj, h⟩⟩
theorem cs_cons_in {T : List Ed} {e : Ed} {i : Nat} (hi : i < 7) (h : (cs T e.1 ||| cs T e.2.1).testBit i = true) : cs (e :: T) i = cs T e.1 ||| cs T e.2.1 := by
  refine set_ext (n := 7) (cs_lt _ _) (or_lt (n := 7) (cs_lt _ _) (cs_lt _ _)) (fun j hj => ?_)
  rw [Nat.testBit_or, Bool.or_eq_true, cs_bit, cs_bit] at h
  rw [Nat.testBit_or, Bool.or_eq_true, cs_bit, cs_bit, cs_bit, Cn_cons]
  rcases h with ⟨-, h⟩ | ⟨-, h⟩
  · constructor
    · rintro ⟨-, q | ⟨q, q2⟩ | ⟨q, q2⟩⟩
      · exact Or.inl ⟨hj, h.trans q⟩
      · exact Or.inr ⟨hj, q2⟩
      · exact Or.inl ⟨hj, q2⟩
    · rintro (⟨-, q⟩ | ⟨-, q⟩)
      · exact ⟨hj, Or.inl (h.symm.trans q)⟩
      · exact ⟨hj, Or.inr (Or.inl ⟨h.symm, q⟩)⟩
  · constructor
    · rintro ⟨-, q | ⟨q, q2⟩ | ⟨q, q2⟩⟩
      · exact Or.inr ⟨hj, h.trans q⟩
      · exact Or.inr ⟨hj, q2⟩
      · exact Or.inl ⟨hj, q2⟩
    · rintro (⟨-, q⟩ | ⟨-, q⟩)
      · exact ⟨hj, Or.inr (Or.inr ⟨h.symm, q⟩)⟩
      · exact ⟨hj, Or.inl (h.symm.trans q)⟩
theorem cs_cons_out {T : List Ed} {e : Ed} {i : Nat} (hi : i < 7) (h : (cs T e.1 ||| cs T e.2.1).testBit i = false) : cs (e :: T) i = cs T i := by
  refine set_ext (n := 7) (cs_lt _ _) (cs_lt _ _) (fun j hj => ?_)
  rw [Nat.testBit_or, Bool.or_eq_false_iff] at h
  have h1 : ¬ Cn T e.1 i := fun q => by rw [cs_bit.mpr ⟨hi, q⟩] at h; exact absurd h.1 (by decide)
  have h2 : ¬ Cn T e.2.1 i := fun q => by rw [cs_bit.mpr ⟨hi, q⟩] at h; exact absurd h.2 (by decide)
  rw [cs_bit, cs_bit, Cn_cons]
  constructor
  · rintro ⟨-, q | ⟨q, -⟩ | ⟨q, -⟩⟩
    · exact ⟨hj, q⟩
    · exact absurd q.symm h1
    · exact absurd q.symm h2
  · rintro ⟨-, q⟩
    exact ⟨hj, Or.inl q⟩
theorem ct_le1 {p : Nat → Bool} : ∀ {n : Nat}, fb_ct p n ≤ 1 ↔ ∀ i j, i < n → j < n → p i = true → p j = true → i = j
  | 0 => ⟨fun _ i j hi => absurd hi (Nat.not_lt_zero i), fun _ => by show 0 ≤ 1; omega⟩
  | n + 1 => by
    rw [fb_ct_succ]
    cases hp : p n
    · simp only [Bool.false_eq_true, if_false, Nat.add_zero]
      rw [ct_le1]
      constructor
      · intro h i j hi hj h1 h2
        refine h i j ?_ ?_ h1 h2
        · exact Nat.lt_of_le_of_ne (by omega) (fun e => by rw [e, hp] at h1; exact absurd h1 (by decide))
        · exact Nat.lt_of_le_of_ne (by omega) (fun e => by rw [e, hp] at h2; exact absurd h2 (by decide))
      · intro h i j hi hj
        exact h i j (by omega) (by omega)
    · simp only [if_true]
      constructor
      · intro h
        have h0 : fb_ct p n = 0 := by omega
        have h1 := fb_ct_zero.mp h0
        have z : ∀ i, i < n + 1 → p i = true → i = n := fun i hi q => by
          refine Classical.byContradiction fun ne => ?_
          rw [h1 i (by omega)] at q
          exact absurd q (by decide)
        intro i j hi hj q1 q2
        rw [z i hi q1, z j hj q2]
      · intro h
        have : fb_ct p n = 0 := fb_ct_zero.mpr (fun k hk => by
          cases hq : p k
          · rfl
          · exact absurd (h k n (by omega) (by omega) hq hp) (by omega))
        omega
/-- the roots as a list -/
def rts (R : Nat) : List Nat := (List.range 7).filter (fun i => R.testBit i)
theorem mem_rts {R i : Nat} : i ∈ rts R ↔ i < 7 ∧ R.testBit i = true := by
  unfold rts; rw [List.mem_filter, List.mem_range]
theorem rts_nodup (R : Nat) : (rts R).Nodup := List.Nodup.sublist List.filter_sublist List.nodup_range
/-- whether a wire can be taken -/
noncomputable def okR (R : Nat) (e : Ed) (T : List Ed) : Bool := !((cs T e.1).testBit e.2.1) && decide (pc ((cs T e.1 ||| cs T e.2.1) &&& R) ≤ 1)
theorem okR_iff {R : Nat} {e : Ed} {T : List Ed} (h2 : e.2.1 < 7) (hT : PD T (rts R)) : okR R e T = true ↔ (¬ Cn T e.1 e.2.1 ∧ PD (e :: T) (rts R)) := by
  unfold okR pc
  rw [Bool.and_eq_true, decide_eq_true_eq, ct_le1, Bool.not_eq_true']
  have a1 : (cs T e.1).testBit e.2.1 = false ↔ ¬ Cn T e.1 e.2.1 := by
    rw [← Bool.not_eq_true, cs_bit]
    exact ⟨fun h q => h ⟨h2, q⟩, fun h q => h q.2⟩
  rw [a1]
  have mem : ∀ i, ((cs T e.1 ||| cs T e.2.1) &&& R).testBit i = true ↔ (i ∈ rts R ∧ (Cn T e.1 i ∨ Cn T e.2.1 i)) := fun i => by
    rw [Nat.testBit_and, Bool.and_eq_true, Nat.testBit_or, Bool.or_eq_true, cs_bit, cs_bit, mem_rts]
    constructor
    · rintro ⟨⟨q1, q2⟩ | ⟨q1, q2⟩, q3⟩
      · exact ⟨⟨q1, q3⟩, Or.inl q2⟩
      · exact ⟨⟨q1, q3⟩, Or.inr q2⟩
    · rintro ⟨⟨q1, q3⟩, q2 | q2⟩
      · exact ⟨Or.inl ⟨q1, q2⟩, q3⟩
      · exact ⟨Or.inr ⟨q1, q2⟩, q3⟩
  refine and_congr_right (fun hc => ⟨fun h x hx y hy hxy => ?_, fun h i j hi hj q1 q2 => ?_⟩)
  · have lx := (mem_rts.mp hx).1
    have ly := (mem_rts.mp hy).1
    rcases Cn_cons.mp hxy with q | ⟨q, q2⟩ | ⟨q, q2⟩
    · exact hT x hx y hy q
    · exact h x y (by omega) (by omega) ((mem x).mpr ⟨hx, Or.inl q.symm⟩) ((mem y).mpr ⟨hy, Or.inr q2⟩)
    · exact h x y (by omega) (by omega) ((mem x).mpr ⟨hx, Or.inr q.symm⟩) ((mem y).mpr ⟨hy, Or.inl q2⟩)
  · obtain ⟨m1, c1⟩ := (mem i).mp q1
    obtain ⟨m2, c2⟩ := (mem j).mp q2
    refine h i m1 j m2 (Cn_cons.mpr ?_)
    rcases c1 with c1 | c1 <;> rcases c2 with c2 | c2
    · exact Or.inl (c1.symm.trans c2)
    · exact Or.inr (Or.inl ⟨c1.symm, c2⟩)
    · exact Or.inr (Or.inr ⟨c1.symm, c2⟩)
    · exact Or.inl (c1.symm.trans c2)
/-- the row of a level -/
def RowT (σ : Wd) (k : Nat) (T : List Ed) : Prop := ∀ i, i < 7 → σ.1 (8 + k) i = nI (cs T i)
theorem RowT.same {σ σ' : Wd} {k : Nat} {T : List Ed} (h : RowT σ k T) (h1 : σ'.1 (8 + k) = σ.1 (8 + k)) : RowT σ' k T := fun i hi => by rw [h1]; exact h i hi
def Nt.g (t : Nt) (w : Nat) : Ed := (t.f w, t.s w, t.c w)
section take
variable {N : Nat} {σ : Wd} {t : Nt}
theorem v_treeAround {k i : Nat} {T : List Ed} (hr : RowT σ k T) (hk : k < 8) (hi : i < 7) : f_X0_treeAround N σ (nI i) (nI k) = some (nI (cs T i)) := by
  unfold f_X0_treeAround
  simp (disch := omega) only [lt0, lq8, lq7, nI_leI, nI_ltI, if_neg, if_pos, if_false, rR_n, rI_n, hr i hi]
theorem v_rows {ρ : Type} {K : Wd → Option ρ} {T : List Ed} {e : Ed} {k : Nat} (hk : k < 7) : ∀ d i n (s : Wd), i + d = 7 → d < n → RowT s k T →
    ∃ s', fl_X0_canTake_85 N (nI k) (nI (cs T e.1 ||| cs T e.2.1)) K n (nI i) s = K s' ∧ (∀ j, i ≤ j → j < 7 → s'.1 (8 + (k + 1)) j = nI (cs (e :: T) j)) ∧ (∀ j, j < i → s'.1 (8 + (k + 1)) j = s.1 (8 + (k + 1)) j) ∧ (∀ p, p ≠ 8 + (k + 1) → s'.1 p = s.1 p) ∧ s'.2 = s.2 := by
  intro d
  induction d with
  | zero =>
    intro i n s hi hn hr
    obtain ⟨n, rfl⟩ : ∃ m, n = m + 1 := ⟨n - 1, by omega⟩
    refine ⟨s, ?_, fun j h1 h2 => by omega, fun j _ => rfl, fun p _ => rfl, rfl⟩
    rw [fl_X0_canTake_85]
    simp (disch := omega) only [lq7, nI_leI, if_pos]
  | succ d ih =>
    intro i n s hi hn hr
    obtain ⟨n, rfl⟩ : ∃ m, n = m + 1 := ⟨n - 1, by omega⟩
    have hJ : cs T e.1 ||| cs T e.2.1 < 128 := or_lt (n := 7) (cs_lt _ _) (cs_lt _ _)
    have hv : (if (cs T e.1 ||| cs T e.2.1).testBit i = true then nI (cs T e.1 ||| cs T e.2.1) else nI (cs T i)) = nI (cs (e :: T) i) := by
      cases hb : (cs T e.1 ||| cs T e.2.1).testBit i
      · rw [cs_cons_out (by omega) hb]; rfl
      · rw [cs_cons_in (by omega) hb]; rfl
    obtain ⟨s', e1, h1, h2, h3, h4⟩ := ih (i + 1) n (sI s (8 + (k + 1)) i (nI (cs (e :: T) i))) (by omega) (by omega) (hr.same (sI_place (by omega)))
    refine ⟨s', ?_, fun j hj hj7 => ?_, fun j hj => ?_, fun p hp => ?_, h4⟩
    · rw [fl_X0_canTake_85]
      simp (disch := omega) only [lq7, lq8, nI_leI, if_neg, nI_1, rR_n, v_isIn, bP_s, jn_e, rI_n, if_bI0, hr i (by omega), aI_n]
      rw [← e1, ← hv]
      cases (cs T e.1 ||| cs T e.2.1).testBit i <;> rfl
    · by_cases e2 : j = i
      · subst e2
        rw [h2 j (by omega), sI_same]
      · exact h1 j (by omega) hj7
    · rw [h2 j (by omega), sI_slot (by omega)]
    · rw [h3 p hp, sI_place hp]
/-- a wire that can be taken is, in the next row; else nothing changes -/
theorem v_canTake (r : RN σ t) (i : IN t) (hN : 100 ≤ N) {w k R : Nat} {T : List Ed} (hw : w < 20) (hk : k < 7) (hR : R < 128) (hσ : σ.1 5 3 = nI R) (hr : RowT σ k T) :
    ∃ σ', f_X0_canTake N σ (nI w) (nI k) = some (bI (okR R (t.g w) T), σ') ∧ (okR R (t.g w) T = true → RowT σ' (k + 1) (t.g w :: T)) ∧ (∀ p, p ≠ 8 + (k + 1) → σ'.1 p = σ.1 p) ∧ σ'.2 = σ.2 := by
  have hf := i.fb w
  have hs := i.sb w
  have hJ : cs T (t.f w) ||| cs T (t.s w) < 128 := or_lt (n := 7) (cs_lt _ _) (cs_lt _ _)
  have hA : (cs T (t.f w) ||| cs T (t.s w)) &&& R < 128 := Nat.lt_of_le_of_lt Nat.and_le_left hJ
  have hc1 := cs_lt T (t.f w)
  have hpc : pc ((cs T (t.f w) ||| cs T (t.s w)) &&& R) ≤ 20 := fb_ct_le _ 20
  have ho : okR R (t.g w) T = (!((cs T (t.f w)).testBit (t.s w)) && decide (pc ((cs T (t.f w) ||| cs T (t.s w)) &&& R) ≤ 1)) := rfl
  unfold f_X0_canTake
  simp (disch := omega) only [v_firstOf r hw, v_secondOf r hw, bP_s, v_treeAround hr, lI, fa_or, v_isIn, if_bI0, gI, hσ, fa_and, v_bitCount, lt0, if_false, lq8, lq1, nI_add, nI_leI, nI_ltI, if_pos]
  rw [ho]
  cases hb : (cs T (t.f w)).testBit (t.s w)
  · by_cases hq : pc ((cs T (t.f w) ||| cs T (t.s w)) &&& R) ≤ 1
    · obtain ⟨s', e1, h1, h2, h3, h4⟩ := v_rows (N := N) (K := fun s15 => some ((nI 1 : Int32), s15)) (T := T) (e := t.g w) hk 7 0 N σ (by omega) (by omega) hr
      refine ⟨s', ?_, fun _ j hj => h1 j (by omega) hj, h3, h4⟩
      rw [if_neg (by decide), if_pos hq, decide_eq_true hq]
      exact e1
    · refine ⟨σ, ?_, fun h => ?_, fun _ _ => rfl, rfl⟩
      · rw [if_neg (by decide), if_neg hq, decide_eq_false hq]; rfl
      · rw [decide_eq_false hq] at h; exact absurd h (by decide)
  · refine ⟨σ, ?_, fun h => absurd h (by simp), fun _ _ => rfl, rfl⟩
    rfl
end take
