/-! THE LAW'S MINORS, found set by set of columns. -/
theorem cL_len (C : Nat) : ∀ d k, (cL C k d).length = fb_ct (fun j => C.testBit (k + j)) d
  | 0, _ => rfl
  | d + 1, k => by
    have ih := cL_len C d (k + 1)
    have h := fb_ct_split (fun j => C.testBit (k + j)) 1 d
    rw [Nat.add_comm 1 d] at h
    rw [h]
    have e : fb_ct (fun j => C.testBit (k + (1 + j))) d = fb_ct (fun j => C.testBit (k + 1 + j)) d := fb_ct_cong (fun j _ => by rw [Nat.add_assoc])
    have e1 : fb_ct (fun j => C.testBit (k + j)) 1 = if C.testBit k then 1 else 0 := by
      show 0 + (if C.testBit (k + 0) then 1 else 0) = _
      rw [Nat.zero_add]; rfl
    rw [e1, e, ← ih]
    have ec : cL C k (d + 1) = if C.testBit k = true then k :: cL C (k + 1) d else cL C (k + 1) d := rfl
    rw [ec]
    cases C.testBit k
    · simp
    · simp; omega
/-- sums from a place on -/
def sF (h : Nat → Int) : Nat → Nat → Int
  | _, 0 => 0
  | k, d + 1 => h k + sF h (k + 1) d
theorem sF_7 (h : Nat → Int) : smI h 7 = sF h 0 7 := by
  show 0 + h 0 + h 1 + h 2 + h 3 + h 4 + h 5 + h 6 = h 0 + (h 1 + (h 2 + (h 3 + (h 4 + (h 5 + (h 6 + 0))))))
  omega
theorem exl_sF {f : Nat → Int} {D : List Nat → Int} {X : Nat} : ∀ d k, k + d = 7 → exl f D (cL X 0 k) (cL X k d) = sF (fun j => if X.testBit j = true then sg (cL X (j + 1) (6 - j)).length * (f j * D (cL (mn X (2 ^ j)) 0 7)) else 0) k d
  | 0, k, _ => rfl
  | d + 1, k, h => by
    have ih := exl_sF (f := f) (D := D) (X := X) d (k + 1) (by omega)
    have e0 : cL X 0 (k + 1) = cL X 0 k ++ cL X k 1 := by rw [cL_split, Nat.zero_add]
    have hd : 6 - k = d := by omega
    have hm := cL_mn (C := X) (k := k) (by omega)
    rw [hd] at hm
    show _ = (if X.testBit k = true then _ else _) + _
    cases hb : X.testBit k
    · have e1 : cL X k (d + 1) = cL X (k + 1) d := by rw [cL, hb]; rfl
      have e2 : cL X k 1 = [] := by rw [cL, hb]; rfl
      rw [e2, List.append_nil] at e0
      rw [e0] at ih
      rw [e1, ih]
      simp
    · have e1 : cL X k (d + 1) = k :: cL X (k + 1) d := by rw [cL, hb]; rfl
      have e2 : cL X k 1 = [k] := by rw [cL, hb]; rfl
      rw [e2] at e0
      rw [e0] at ih
      rw [e1]
      show sg (cL X (k + 1) d).length * (f k * D (cL X 0 k ++ cL X (k + 1) d)) + exl f D (cL X 0 k ++ [k]) (cL X (k + 1) d) = _
      rw [ih, hm]
      simp only [if_true]
      rw [hd]
section dp
variable (a : Nat → Nat → Int)
/-- the first rows -/
def rwM (m : Nat) : List (Nat → Int) := (List.range m).map a
def FX (X : Nat) : Int := dt (rwM a (pc X)) (cL X 0 7)
def tmX (X k : Nat) : Int := sg (cL X (k + 1) (6 - k)).length * (a (pc X - 1) k * FX a (mn X (2 ^ k)))
def ptX (X s k : Nat) : Int := smI (fun j => if X.testBit j = true ∧ (mn X (2 ^ j) < s ∨ (mn X (2 ^ j) = s ∧ j < k)) then tmX a X j else 0) 7
def vlX (s k X : Nat) : Int := if X = 0 then 1 else ptX a X s k
end dp
theorem pc_mn7 {X j : Nat} (hX : X < 128) (h : X.testBit j = true) : pc (mn X (2 ^ j)) + 1 = pc X := pc_mn hX h
theorem cL_pc {X : Nat} (hX : X < 128) : (cL X 0 7).length = pc X := by
  rw [cL_len, pc_upto (n := 7) hX (by omega)]
  exact fb_ct_cong (fun j _ => by rw [Nat.zero_add])
theorem mn_bit_lt {X j : Nat} (h : X.testBit j = true) : mn X (2 ^ j) < X := by
  refine Nat.lt_of_le_of_ne (mn_le _ _) (fun e => ?_)
  have : (mn X (2 ^ j)).testBit j = true := by rw [e]; exact h
  rw [mn_bit, Nat.testBit_two_pow] at this
  simp at this
theorem FX_0 (a : Nat → Nat → Int) : FX a 0 = 1 := by
  unfold FX
  rw [show pc 0 = 0 from by decide +kernel, show cL 0 0 7 = [] from by decide +kernel]
  rfl
theorem smI_congr {f g : Nat → Int} : ∀ n, (∀ j, j < n → f j = g j) → smI f n = smI g n
  | 0, _ => rfl
  | n + 1, h => by
    show smI f n + f n = smI g n + g n
    rw [smI_congr n (fun j hj => h j (by omega)), h n (by omega)]
/-- what is complete -/
theorem ptX_full {a : Nat → Nat → Int} {X s k : Nat} (hX : X < 128) (h0 : X ≠ 0) (hs : X ≤ s) : ptX a X s k = FX a X := by
  have hp : 0 < pc X := by
    rcases Nat.eq_zero_or_pos (pc X) with h | h
    · exfalso
      rw [pc_upto (n := 7) hX (by omega)] at h
      have h1 := fb_ct_zero.mp h
      refine h0 (Nat.eq_of_testBit_eq (fun k => ?_))
      rw [Nat.zero_testBit]
      by_cases hk : k < 7
      · exact h1 k hk
      · exact Nat.testBit_lt_two_pow (Nat.lt_of_lt_of_le (show X < 2 ^ 7 from hX) (Nat.pow_le_pow_right (by decide) (by omega)))
    · exact h
  obtain ⟨m, hm⟩ : ∃ m, pc X = m + 1 := ⟨pc X - 1, by omega⟩
  have hF : FX a X = exl (a m) (dt (rwM a m)) [] (cL X 0 7) := by
    unfold FX
    rw [hm]
    have e : rwM a (m + 1) = rwM a m ++ [a m] := by unfold rwM; rw [List.range_succ, List.map_append]; rfl
    rw [e]
    exact dt_last (by rw [cL_pc hX, hm]; simp [rwM])
  have hE := exl_sF (f := a m) (D := dt (rwM a m)) (X := X) 7 0 (by omega)
  have e0 : cL X 0 0 = [] := rfl
  rw [e0] at hE
  rw [hF, hE, ← sF_7]
  unfold ptX
  refine smI_congr 7 (fun j hj => ?_)
  by_cases hb : X.testBit j = true
  · have hlt := mn_bit_lt hb
    rw [if_pos ⟨hb, Or.inl (by omega)⟩, if_pos hb]
    unfold tmX FX
    have := pc_mn7 hX hb
    rw [show pc (mn X (2 ^ j)) = m by omega, hm]
    rfl
  · rw [if_neg (fun q => hb q.1), if_neg hb]
theorem vlX_full {a : Nat → Nat → Int} {s k : Nat} (hs : s < 128) : vlX a s k s = FX a s := by
  unfold vlX
  by_cases h : s = 0
  · rw [if_pos h, h, FX_0]
  · rw [if_neg h]; exact ptX_full hs h (Nat.le_refl s)
theorem smI_upd {f g : Nat → Int} {x : Int} {k : Nat} : ∀ n, k < n → f k = 0 → g k = x → (∀ j, j < n → j ≠ k → g j = f j) → smI g n = smI f n + x
  | 0, h, _, _, _ => absurd h (Nat.not_lt_zero k)
  | n + 1, h, h1, h2, h3 => by
    show smI g n + g n = smI f n + f n + x
    by_cases e : k = n
    · subst e
      rw [h2, h1, smI_congr k (fun j hj => h3 j (by omega) (by omega))]
      omega
    · rw [smI_upd n (by omega) h1 h2 (fun j hj hne => h3 j (by omega) hne), h3 n (by omega) (fun z => e z.symm)]
      omega
/-- one step: the set with one column more -/
theorem ptX_step {a : Nat → Nat → Int} {s k : Nat} (hs : s < 128) (hk : k < 7) (hb : s.testBit k = false) : ptX a (s ||| 2 ^ k) s (k + 1) = ptX a (s ||| 2 ^ k) s k + sg (cL s (k + 1) (6 - k)).length * (a (pc s) k * FX a s) := by
  have hX : s ||| 2 ^ k < 128 := or_lt (n := 7) hs (Nat.pow_lt_pow_right (by decide) hk)
  have hXk : (s ||| 2 ^ k).testBit k = true := orb_t.mpr (Or.inr rfl)
  have hm : mn (s ||| 2 ^ k) (2 ^ k) = s := by
    apply Nat.eq_of_testBit_eq
    intro j
    rw [mn_bit, fb_bit_set, Nat.testBit_two_pow]
    by_cases e : j = k
    · subst e; rw [hb]; simp
    · have e' : ¬ k = j := fun z => e z.symm
      simp [e, e']
  have hp := pc_mn7 hX hXk
  rw [hm] at hp
  have ht : tmX a (s ||| 2 ^ k) k = sg (cL s (k + 1) (6 - k)).length * (a (pc s) k * FX a s) := by
    unfold tmX
    rw [hm, show pc (s ||| 2 ^ k) - 1 = pc s by omega]
    rw [cL_congr (C := s ||| 2 ^ k) (C' := s) (6 - k) (k + 1) (fun j h1 h2 => by
      rw [fb_bit_set]
      have : ¬ j = k := by omega
      simp [this])]
  refine smI_upd 7 hk ?_ ?_ (fun j hj hne => ?_)
  · rw [hm]; exact if_neg (fun q => by rcases q.2 with q | q <;> omega)
  · rw [hm, if_pos ⟨hXk, Or.inr ⟨rfl, by omega⟩⟩, ht]
  · by_cases hbj : (s ||| 2 ^ k).testBit j = true
    · have hne2 : mn (s ||| 2 ^ k) (2 ^ j) ≠ s := fun e => by
        have h1 : (mn (s ||| 2 ^ k) (2 ^ j)).testBit k = true := by
          rw [mn_bit, hXk, Nat.testBit_two_pow]; simp [hne]
        rw [e, hb] at h1; exact absurd h1 (by decide)
      by_cases hlt : mn (s ||| 2 ^ k) (2 ^ j) < s
      · rw [if_pos ⟨hbj, Or.inl hlt⟩, if_pos ⟨hbj, Or.inl hlt⟩]
      · rw [if_neg (fun q => q.2.elim hlt (fun z => hne2 z.1)), if_neg (fun q => q.2.elim hlt (fun z => hne2 z.1))]
    · rw [if_neg (fun q => hbj q.1), if_neg (fun q => hbj q.1)]
/-- all other sets stay as they are -/
theorem ptX_keep {a : Nat → Nat → Int} {X s k : Nat} (h : ¬ (X.testBit k = true ∧ mn X (2 ^ k) = s)) : ptX a X s (k + 1) = ptX a X s k := by
  refine smI_congr 7 (fun j _ => ?_)
  by_cases e : j = k
  · subst e
    by_cases hb : X.testBit j = true
    · by_cases hlt : mn X (2 ^ j) < s
      · rw [if_pos ⟨hb, Or.inl hlt⟩, if_pos ⟨hb, Or.inl hlt⟩]
      · have hne : ¬ mn X (2 ^ j) = s := fun z => h ⟨hb, z⟩
        rw [if_neg (fun q => q.2.elim hlt (fun z => hne z.1)), if_neg (fun q => q.2.elim hlt (fun z => hne z.1))]
    · rw [if_neg (fun q => hb q.1), if_neg (fun q => hb q.1)]
  · by_cases hb : X.testBit j = true ∧ (mn X (2 ^ j) < s ∨ (mn X (2 ^ j) = s ∧ j < k))
    · rw [if_pos hb, if_pos ⟨hb.1, hb.2.imp id (fun z => ⟨z.1, by omega⟩)⟩]
    · rw [if_neg hb, if_neg (fun q => hb ⟨q.1, q.2.imp id (fun z => ⟨z.1, by omega⟩)⟩)]
theorem ptX_next {a : Nat → Nat → Int} {X s n : Nat} (hX : X < 2 ^ n) : ptX a X (s + 1) 0 = ptX a X s n := by
  refine smI_congr 7 (fun j _ => ?_)
  by_cases hb : X.testBit j = true
  · have hj := bit_lt hX hb
    by_cases hlt : mn X (2 ^ j) < s + 1
    · rw [if_pos ⟨hb, Or.inl hlt⟩, if_pos ⟨hb, (show mn X (2 ^ j) < s ∨ mn X (2 ^ j) = s by omega).imp id (fun z => ⟨z, hj⟩)⟩]
    · rw [if_neg (fun q => q.2.elim hlt (fun z => by omega)), if_neg (fun q => q.2.elim (fun z => by omega) (fun z => by have := z.1; omega))]
  · rw [if_neg (fun q => hb q.1), if_neg (fun q => hb q.1)]
theorem ptX_0 {a : Nat → Nat → Int} {X : Nat} : ptX a X 0 0 = 0 := by
  have : ptX a X 0 0 = smI (fun _ => 0) 7 := smI_congr 7 (fun j _ => if_neg (fun q => by rcases q.2 with q | q <;> omega))
  rw [this]; decide
/-- which column is exchanged -/
def AT (x1 x2 : Int32) : Option (Nat × Nat) → Prop
  | none => x1 = -1
  | some cj => x1 = nI cj.1 ∧ x2 = nI cj.2 ∧ cj.1 < 7 ∧ cj.2 < 7
def en (t : Nt) (ao : Option (Nat × Nat)) (a z : Nat) : Int := match ao with
  | none => Am t a z
  | some cj => if z = cj.1 then (bs t a cj.2 20 : Int) else Am t a z
section mloops
variable {N : Nat} {ν : Wd} {t : Nt} {x0 x1 x2 : Int32}
theorem v_m18 {ρ : Type} {K : Int32 → Wd → Option ρ} {S : Nat} (hS : S < 128) : ∀ d k n (s : Wd), k + d = 7 → d < n → (∀ j, j < (pick (fun z => S.testBit z) k).length → s.1 13 j = nI ((pick (fun z => S.testBit z) k).getD j 0)) →
    ∃ s', fl_L_minor_18 N ν (nI S) x1 x2 K n (nI (pick (fun z => S.testBit z) k).length) (nI k) s = K (nI (pick (fun z => S.testBit z) 7).length) s' ∧ (∀ j, j < (pick (fun z => S.testBit z) 7).length → s'.1 13 j = nI ((pick (fun z => S.testBit z) 7).getD j 0)) ∧ s'.2 = s.2 := by
  intro d
  induction d with
  | zero =>
    intro k n s hk hn h
    obtain ⟨n, rfl⟩ : ∃ m, n = m + 1 := ⟨n - 1, by omega⟩
    have hk : k = 7 := by omega
    subst hk
    refine ⟨s, ?_, h, rfl⟩
    rw [fl_L_minor_18, lq7, if_pos (nI_le (Nat.le_refl _) (by omega))]
  | succ d ih =>
    intro k n s hk hn h
    obtain ⟨n, rfl⟩ : ∃ m, n = m + 1 := ⟨n - 1, by omega⟩
    have hl := pick_len_le (fun z => S.testBit z) k
    rw [fl_L_minor_18]
    rw [c_in (by omega) (by omega)]
    simp (disch := omega) only [lq7, nI_leI, if_neg, jn_e, if_bI1, nI_1]
    cases hb : S.testBit k
    · have e : pick (fun z => S.testBit z) (k + 1) = pick (fun z => S.testBit z) k := by rw [pick]; simp [hb]
      have := ih (k + 1) n s (by omega) (by omega) (by rw [e]; exact h)
      rw [e] at this
      exact this
    · have e : pick (fun z => S.testBit z) (k + 1) = pick (fun z => S.testBit z) k ++ [k] := by rw [pick]; simp [hb]
      obtain ⟨s', e1, g1, g2⟩ := ih (k + 1) n (sI s 13 (pick (fun z => S.testBit z) k).length (nI k)) (by omega) (by omega) (fun j hj => by
        rw [e, List.length_append] at hj
        simp only [List.length_cons, List.length_nil] at hj
        rw [e]
        rcases Nat.lt_or_ge j (pick (fun z => S.testBit z) k).length with z | z
        · rw [sI_slot (by omega), getD_snoc z, h j z]
        · have : j = (pick (fun z => S.testBit z) k).length := by omega
          subst this
          rw [sI_same, getD_last])
      refine ⟨s', ?_, g1, g2⟩
      rw [e, List.length_append] at e1
      simp (disch := omega) only [if_true, aI_n]
      exact e1
theorem v_m76 {ρ : Type} {K : Int32 → Option ρ} {τ : Wd} {s m : Nat} (hs : s < 128) (hm : m ≤ 7) : ∀ d k n, k + d = m → d < n → fl_L_minor_76 N ν τ x1 x2 (nI m) (nI s) K n (nI (fb_ct (fun z => s.testBit z) k)) (nI k) = K (nI (fb_ct (fun z => s.testBit z) m)) := by
  intro d
  induction d with
  | zero =>
    intro k n hk hn
    obtain ⟨n, rfl⟩ : ∃ m, n = m + 1 := ⟨n - 1, by omega⟩
    rw [fl_L_minor_76, if_pos (nI_le (by omega) (by omega)), show k = m by omega]
  | succ d ih =>
    intro k n hk hn
    obtain ⟨n, rfl⟩ : ∃ m, n = m + 1 := ⟨n - 1, by omega⟩
    rw [fl_L_minor_76, c_in (by omega) (by omega), if_neg (nI_ge (by omega) (by omega)), ← nI_bN, nI_add, nI_1]
    have := ih (k + 1) n (by omega) (by omega)
    rw [fb_ct_succ] at this
    exact this
theorem v_m134 {ρ : Type} {K : Int32 → Option ρ} {τ : Wd} {x11 x12 : Int32} {s m k0 : Nat} (hs : s < 128) (hm : m ≤ 7) : ∀ d k n, k0 + k + d = m → d < n → fl_L_minor_134 N ν τ x1 x2 (nI m) (nI s) x11 x12 K n (nI (fb_ct (fun z => s.testBit (k0 + z)) k)) (nI (k0 + k)) = K (nI (fb_ct (fun z => s.testBit (k0 + z)) (m - k0))) := by
  intro d
  induction d with
  | zero =>
    intro k n hk hn
    obtain ⟨n, rfl⟩ : ∃ m, n = m + 1 := ⟨n - 1, by omega⟩
    rw [fl_L_minor_134, if_pos (nI_le (by omega) (by omega)), show m - k0 = k by omega]
  | succ d ih =>
    intro k n hk hn
    obtain ⟨n, rfl⟩ : ∃ m, n = m + 1 := ⟨n - 1, by omega⟩
    rw [fl_L_minor_134, c_in (by omega) (by omega), if_neg (nI_ge (by omega) (by omega)), ← nI_bN, nI_add, nI_1]
    have := ih (k + 1) n (by omega) (by omega)
    rw [fb_ct_succ] at this
    exact this
/-- one entry -/
theorem v_entry {ρ : Type} {F : Int64 → Option ρ} (r : RQ ν t) (i : IN t) (hN : 100 ≤ N) {ao : Option (Nat × Nat)} (h : AT x1 x2 ao) {a z : Nat} (ha : a < 7) (hz : z < 7) :
    (if nI z = x1 then (bP (f_L_between N ν (nI a) x2) fun v16 => if nI a = x2 then F v16 else (if nI z = x1 then F v16 else F (-v16))) else (bP (f_L_between N ν (nI a) (nI z)) fun v16 => if nI a = nI z then F v16 else (if nI z = x1 then F v16 else F (-v16)))) = F (lZ (en t ao a z)) := by
  have plain : ∀ y : Int32, ¬ nI z = y → (if nI z = y then (bP (f_L_between N ν (nI a) x2) fun v16 => if nI a = x2 then F v16 else (if nI z = y then F v16 else F (-v16))) else (bP (f_L_between N ν (nI a) (nI z)) fun v16 => if nI a = nI z then F v16 else (if nI z = y then F v16 else F (-v16)))) = F (lZ (Am t a z)) := fun y hy => by
    rw [if_neg hy, v_between r i hN ha hz, bP_s]
    by_cases e : a = z
    · rw [if_pos (by rw [e]), Am_eq e]; rfl
    · rw [if_neg (by rw [nI_eq (by omega) (by omega)]; exact e), if_neg hy, Am_ne e, ← lZ_neg]; rfl
  cases ao with
  | none =>
    have h1 : x1 = -1 := h
    refine plain x1 (fun q => ?_)
    have := nI_m1 (show z < 2 ^ 31 by omega)
    rw [h1] at q
    rw [← this]; exact q
  | some cj =>
    obtain ⟨h1, h2, h3, h4⟩ := h
    by_cases e : z = cj.1
    · have en1 : en t (some cj) a z = (bs t a cj.2 20 : Int) := if_pos e
      have hz1 : nI z = x1 := by rw [h1, e]
      rw [if_pos hz1, h2, v_between r i hN ha h4, bP_s, en1, ← lN_lZ]
      simp only [if_pos hz1, ite_self]
    · have en1 : en t (some cj) a z = Am t a z := if_neg e
      rw [en1]
      exact plain x1 (by rw [h1, nI_eq (by omega) (by omega)]; exact e)
end mloops
