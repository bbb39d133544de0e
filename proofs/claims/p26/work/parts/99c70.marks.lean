/-! MARK AND KEEPS, class and law. -/
section marks
variable {N L : Nat} {xs : Nat → Int32} {γ : Wd} {x15 x16 x19 : Int32} {σ ν : Wd} {mk : Int32} {t : Nt} {B : Prop}
theorem or128 {S k : Nat} (hk : k < 7) : (S ||| 128).testBit k = S.testBit k := by
  rw [show (128 : Nat) = 2 ^ 7 by decide, fb_bit_set, decide_eq_false (by omega), Bool.or_false]
theorem or128_lt {S : Nat} (h : S < 128) : S ||| 128 < 256 := or_lt (n := 8) (by omega) (by decide)
theorem bI_and (a b : Bool) : bI a &&& bI b = bI (a && b) := by cases a <;> cases b <;> decide
theorem aLn {ρ : Type} {σ : Wd} {q n j : Nat} {v : Int64} {K : Wd → Option ρ} (h : j < n) (hn : n < 2 ^ 31) : aL σ q n (nI j) v K = K (sL σ q j v) := aL_n h hn
/-- one row of the mark -/
theorem s981 {ρ : Type} {K : Wd → Option ρ} (i : IN t) (hN : 200 ≤ N) {r : Nat} (hr : r < 7) : ∀ d j n (s : Wd), j + d = r → d < n → RQ s t →
    ∃ s', fl_L_law_981 N L xs γ (nI (t.ed ||| 128)) x15 x16 x19 (lN (cntC t t.ed 0 0)) (nI r) K n (nI j) s = K s' ∧ s'.1 = s.1 ∧
      (∀ x, j ≤ x → x < r → t.ed.testBit r = true → t.ed.testBit x = true → s'.2 10 (7 * r + x) = ans t r x 0 ∧ s'.2 11 (7 * r + x) = ans t r x 1) ∧
      (∀ p x, x < 7 * r + j ∨ 7 * r + 7 ≤ x → s'.2 p x = s.2 p x) := by
  have h7 := i.ed7
  have h8 := or128_lt h7
  have hR := cnt_lt i t.ed 0 0
  intro d
  induction d with
  | zero =>
    intro j n s hj hn _
    obtain ⟨n, rfl⟩ : ∃ m, n = m + 1 := ⟨n - 1, by omega⟩
    refine ⟨s, ?_, rfl, fun x h1 h2 => by omega, fun _ _ _ => rfl⟩
    rw [fl_L_law_981, if_pos (nI_le (by omega) (by omega))]
  | succ d ih =>
    intro j n s hj hn q
    obtain ⟨n, rfl⟩ : ∃ m, n = m + 1 := ⟨n - 1, by omega⟩
    rw [fl_L_law_981, if_neg (nI_ge (by omega) (by omega)), ck_s (by omega)]
    rw [jn_e, c_in (by omega) (by omega), c_in (by omega) (by omega), or128 (by omega), or128 (by omega), if_bI0, if_bI0]
    have skip : (t.ed.testBit r && t.ed.testBit j) = false → ∃ s', fl_L_law_981 N L xs γ (nI (t.ed ||| 128)) x15 x16 x19 (lN (cntC t t.ed 0 0)) (nI r) K n (nI j + 1) s = K s' ∧ s'.1 = s.1 ∧
      (∀ x, j ≤ x → x < r → t.ed.testBit r = true → t.ed.testBit x = true → s'.2 10 (7 * r + x) = ans t r x 0 ∧ s'.2 11 (7 * r + x) = ans t r x 1) ∧
      (∀ p x, x < 7 * r + j ∨ 7 * r + 7 ≤ x → s'.2 p x = s.2 p x) := fun hb => by
      obtain ⟨s', e1, g1, g2, g3⟩ := ih (j + 1) n s (by omega) (by omega) q
      refine ⟨s', by rw [nI_1]; exact e1, g1, fun x h1 h2 h3 h4 => ?_, fun p x hx => g3 p x (by omega)⟩
      by_cases e : x = j
      · subst e; rw [h3, h4] at hb; exact absurd hb (by decide)
      · exact g2 x (by omega) h2 h3 h4
    rcases Bool.eq_false_or_eq_true (t.ed.testBit r) with hbr | hbr
    · rw [if_pos hbr]
      rcases Bool.eq_false_or_eq_true (t.ed.testBit j) with hbj | hbj
      · rw [if_pos hbj, v_pair q i hN hbr hbj (by omega), bP_s]
        simp only [jn_e]
        have hP := cnt_lt i (mn t.ed (2 ^ r)) r j
        have hidx : (7 : Int32) * nI r + nI j = nI (7 * r + j) := by rw [lq7, pk_mul, nI_add]
        rw [hidx]
        have done : ∀ a b : Int64, a = ans t r j 0 → b = ans t r j 1 → ∃ s', (aL s 10 49 (nI (7 * r + j)) a fun s196 => aL s196 11 49 (nI (7 * r + j)) b fun s198 => fl_L_law_981 N L xs γ (nI (t.ed ||| 128)) x15 x16 x19 (lN (cntC t t.ed 0 0)) (nI r) K n (nI j + 1) s198) = K s' ∧ s'.1 = s.1 ∧
            (∀ x, j ≤ x → x < r → t.ed.testBit r = true → t.ed.testBit x = true → s'.2 10 (7 * r + x) = ans t r x 0 ∧ s'.2 11 (7 * r + x) = ans t r x 1) ∧
            (∀ p x, x < 7 * r + j ∨ 7 * r + 7 ≤ x → s'.2 p x = s.2 p x) := fun a b ha hb => by
          obtain ⟨s', e1, g1, g2, g3⟩ := ih (j + 1) n (sL (sL s 10 (7 * r + j) a) 11 (7 * r + j) b) (by omega) (by omega) (q.same (fun _ _ => rfl) (fun _ _ _ => rfl))
          refine ⟨s', ?_, g1, fun x h1 h2 h3 h4 => ?_, fun p x hx => ?_⟩
          · rw [aLn (by omega) (by omega), aLn (by omega) (by omega), nI_1]
            exact e1
          · by_cases e : x = j
            · subst e
              rw [g3 10 _ (by omega), g3 11 _ (by omega), sL_same, sL_place (by omega), sL_same]
              exact ⟨ha, hb⟩
            · exact g2 x (by omega) h2 h3 h4
          · rw [g3 p x (by omega), sL_at, if_neg (fun z => by omega), sL_at, if_neg (fun z => by omega)]
        have ea0 : ans t r j 0 = prt (cntC t (mn t.ed (2 ^ r)) r j : Nat) (cntC t t.ed 0 0) 0 := rfl
        have ea1 : ans t r j 1 = prt (cntC t (mn t.ed (2 ^ r)) r j : Nat) (cntC t t.ed 0 0) 1 := rfl
        by_cases hz : cntC t t.ed 0 0 = 0
        · rw [hz] at ea0 ea1 done ⊢
          rw [if_pos (show lg_cmp (lN 0) 0 = 0 by decide), if_pos (show lg_cmp (lN 0) 0 = 0 by decide)]
          have d0 : ∀ {ρ' : Type} (K' : Int64 → Option ρ'), dL (lN 0) 1 K' = K' 0 := fun K' => by
            unfold dL
            rw [if_neg (by decide)]
            congr 1
          simp only [d0]
          exact done 0 0 (by rw [ea0]; rfl) (by rw [ea1]; rfl)
        · have hc : ¬ lg_cmp (lN (cntC t t.ed 0 0)) 0 = 0 := by
            rw [lg_cmp_eq, lN_eq0 (by omega)]; exact hz
          have hg : Nat.gcd (cntC t t.ed 0 0) (cntC t (mn t.ed (2 ^ r)) r j) < 2 ^ 63 := Nat.lt_of_le_of_lt (Nat.gcd_le_left _ (by omega)) (by omega)
          have hgp : 0 < Nat.gcd (cntC t t.ed 0 0) (cntC t (mn t.ed (2 ^ r)) r j) := Nat.gcd_pos_of_pos_left _ (by omega)
          have hcm := v_common (N := N) hN (u := (cntC t (mn t.ed (2 ^ r)) r j : Int)) (l := cntC t t.ed 0 0) (by omega) (by omega) (by omega)
          rw [← lN_lZ, Int.natAbs_natCast] at hcm
          have hgn : ¬ lN (Nat.gcd (cntC t t.ed 0 0) (cntC t (mn t.ed (2 ^ r)) r j)) = 0 := fun z => by rw [lN_eq0 hg] at z; omega
          have dg : ∀ {ρ' : Type} (x : Int64) (K' : Int64 → Option ρ'), dL x (lN (Nat.gcd (cntC t t.ed 0 0) (cntC t (mn t.ed (2 ^ r)) r j))) K' = K' (x / lN (Nat.gcd (cntC t t.ed 0 0) (cntC t (mn t.ed (2 ^ r)) r j))) := fun x K' => by
            unfold dL
            rw [if_neg hgn]
          rw [if_neg hc, hcm, bP_s, if_neg hc, dg]
          simp only [dg]
          refine done _ _ ?_ ?_
          · rw [ea0]; unfold prt; rw [if_neg hz, if_pos rfl, Int.natAbs_natCast, ← lN_lZ]
          · rw [ea1]; unfold prt; rw [if_neg hz, if_neg (by decide), Int.natAbs_natCast]
      · rw [if_neg (by rw [hbj]; decide)]
        exact skip (by rw [hbj]; simp)
    · rw [if_neg (by rw [hbr]; decide)]
      exact skip (by rw [hbr]; rfl)
theorem s971 {ρ : Type} {K : Wd → Option ρ} (i : IN t) (hN : 200 ≤ N) : ∀ d r n (s : Wd), r + d = 7 → d < n → RQ s t →
    ∃ s', fl_L_law_971 N L xs γ (nI (t.ed ||| 128)) x15 x16 x19 (lN (cntC t t.ed 0 0)) K n (nI r) s = K s' ∧ s'.1 = s.1 ∧
      (∀ y x, r ≤ y → y < 7 → x < y → t.ed.testBit y = true → t.ed.testBit x = true → s'.2 10 (7 * y + x) = ans t y x 0 ∧ s'.2 11 (7 * y + x) = ans t y x 1) ∧
      (∀ p x, x < 7 * r → s'.2 p x = s.2 p x) := by
  intro d
  induction d with
  | zero =>
    intro r n s hr hn _
    obtain ⟨n, rfl⟩ : ∃ m, n = m + 1 := ⟨n - 1, by omega⟩
    refine ⟨s, ?_, rfl, fun y x h1 h2 => by omega, fun _ _ _ => rfl⟩
    rw [fl_L_law_971, lq7, if_pos (nI_le (by omega) (by omega))]
  | succ d ih =>
    intro r n s hr hn q
    obtain ⟨n, rfl⟩ : ∃ m, n = m + 1 := ⟨n - 1, by omega⟩
    obtain ⟨s1, e1, g1, g2, g3⟩ := s981 (N := N) (L := L) (xs := xs) (γ := γ) (x15 := x15) (x16 := x16) (x19 := x19) (K := fun s201 => fl_L_law_971 N L xs γ (nI (t.ed ||| 128)) x15 x16 x19 (lN (cntC t t.ed 0 0)) K n (nI r + 1) s201) i hN (show r < 7 by omega) r 0 7 s (by omega) (by omega) q
    obtain ⟨s2, e2, k1, k2, k3⟩ := ih (r + 1) n s1 (by omega) (by omega) (q.same (fun k _ => by rw [g1]) (fun p _ _ => by rw [g1]))
    refine ⟨s2, ?_, k1.trans g1, fun y x h1 h2 h3 h4 h5 => ?_, fun p x hx => ?_⟩
    · rw [fl_L_law_971, lq7, if_neg (nI_ge (by omega) (by omega)), ck_s (by omega)]
      refine e1.trans ?_
      rw [nI_1]; exact e2
    · rcases Nat.lt_or_ge r y with z | z
      · exact k2 y x z h2 h3 h4 h5
      · have e : y = r := by omega
        subst e
        rw [k3 10 _ (by omega), k3 11 _ (by omega)]
        exact g2 x (Nat.zero_le _) h3 h4 h5
    · rw [k3 p x (by omega), g3 p x (Or.inl (by omega))]
/-- the mark -/
theorem l_mark (h : RT N σ ν mk t B) (hN : 200 ≤ N) (he : t.ed ≠ 0) {v2 : Int32} (J : Int32 → Int32 → Wd → Wd → Option Unit) : ∃ s s', tnM N L xs mk x15 x16 v2 σ ν J = J (nI (t.ed ||| 128)) 1 s s' ∧ RT N s s' (nI (t.ed ||| 128)) t B := by
  obtain ⟨h1, h2, i, h4, -, m, sn, k1, k2, k3, k4, k5⟩ := id h
  obtain ⟨s, e, a1, a2, a3⟩ := v_mark (N := N) h1 i hN
  obtain ⟨s', e2, b1, b2, b3⟩ := s971 (N := N) (L := L) (xs := xs) (γ := s) (x15 := x15) (x16 := x16) (x19 := 1) (K := fun s202 => J (nI (t.ed ||| 128)) 1 s s202) i hN 7 0 8 ν (by omega) (by omega) h2
  refine ⟨s, s', ?_, h1.same (fun p hp hp' => a1 p (Or.inl (by omega)) (by omega)), h2.same (fun k _ => by rw [b1]) (fun p _ _ => by rw [b1]), i, fun j hj => ?_, ⟨t.ed, a2, fun _ q => q, Or.inr rfl, fun x y hxy hy hx' hy' => ?_⟩, m, sn, ?_, ?_, k3, fun z => (k4 z).same (fun p _ _ => by rw [b1]), fun j hj => ?_⟩
  · unfold tnM
    rw [e, bP_s, rg_1 h2, rg_2 h2, fa_and, nd_and i, show (128 : Int32) = nI 128 from rfl, fa_or]
    simp only [lI]
    rw [v_rest h2 i (by omega) he, bP_s]
    exact e2
  · rw [a1 57 (by omega) (by omega), b1]; exact h4 j hj
  · rw [(a3 x y hxy hy hx' hy').1, (a3 x y hxy hy hx' hy').2, (b2 y x (by omega) hy hxy hy' hx').1, (b2 y x (by omega) hy hxy hy' hx').2, ans_sym i hx' hy' (by omega), ans_sym i hx' hy' (by omega)]
    exact ⟨rfl, rfl⟩
  · rw [a1 28 (by omega) (by omega)]; exact k1
  · rw [b1]; exact k2
  · obtain ⟨c1, c2, c3, ⟨kk, ww, c4, c4'⟩, c5⟩ := k5 j hj
    refine ⟨c1, c2, ?_, ⟨kk, ww, by rw [b1]; exact c4, c4'⟩, ?_⟩
    · rw [a1 34 (by omega) (by omega), a1 35 (by omega) (by omega), a1 36 (by omega) (by omega), a1 37 (by omega) (by omega)]; exact c3
    · have ks : ∀ x nW c, KStp σ j x nW c → KStp s j x nW c := fun x nW c q => by
        unfold KStp at *
        rw [a1 38 (by omega) (by omega), a1 39 (by omega) (by omega)]; exact q
      by_cases q : j + 1 < m
      · rw [if_pos q] at c5 ⊢; exact ks _ _ _ c5
      · rw [if_neg q] at c5 ⊢; exact ks _ _ _ c5
/-- the law's look at the mark -/
def Ml (t : Nt) (ν : Wd) (a b : Nat) : Prop := ν.2 10 (7 * a + b) = ans t a b 0 ∧ ν.2 11 (7 * a + b) = ans t a b 1
theorem s1351 {ρ : Type} {K : Int32 → Option ρ} (q : RQ ν t) (i : IN t) (hN : 200 ≤ N) {mE r : Nat} (hm7 : mE < 128) (hme : ∀ k, mE.testBit k = true → t.ed.testBit k = true) (hr : r < 7) : ∀ d j n (b : Bool), j + d = r → d < n →
    ∃ v, fl_L_law_1351 N L xs γ ν (nI (mE ||| 128)) x15 x16 x19 (lN (cntC t t.ed 0 0)) (nI r) K n (bI b) (nI j) = K (bI v) ∧ (v = true ↔ b = true ∧ ∀ x, j ≤ x → x < r → mE.testBit r = true → mE.testBit x = true → Ml t ν r x) := by
  have h8 := or128_lt hm7
  have hR := cnt_lt i t.ed 0 0
  intro d
  induction d with
  | zero =>
    intro j n b hj hn
    obtain ⟨n, rfl⟩ : ∃ m, n = m + 1 := ⟨n - 1, by omega⟩
    refine ⟨b, ?_, fun h => ⟨h, fun x h1 h2 => by omega⟩, fun h => h.1⟩
    rw [fl_L_law_1351, if_pos (nI_le (by omega) (by omega))]
  | succ d ih =>
    intro j n b hj hn
    obtain ⟨n, rfl⟩ : ∃ m, n = m + 1 := ⟨n - 1, by omega⟩
    rw [fl_L_law_1351, if_neg (nI_ge (by omega) (by omega)), ck_s (by omega)]
    rw [jn_e, c_in (by omega) (by omega), c_in (by omega) (by omega), or128 (by omega), or128 (by omega), if_bI1, if_bI1]
    have skip : (mE.testBit r && mE.testBit j) = false → ∃ v, fl_L_law_1351 N L xs γ ν (nI (mE ||| 128)) x15 x16 x19 (lN (cntC t t.ed 0 0)) (nI r) K n (bI b) (nI j + 1) = K (bI v) ∧ (v = true ↔ b = true ∧ ∀ x, j ≤ x → x < r → mE.testBit r = true → mE.testBit x = true → Ml t ν r x) := fun hb => by
      obtain ⟨v, e1, g1⟩ := ih (j + 1) n b (by omega) (by omega)
      refine ⟨v, by rw [nI_1]; exact e1, ?_⟩
      rw [g1]
      refine ⟨fun z => ⟨z.1, fun x h1 h2 h3 h4 => ?_⟩, fun z => ⟨z.1, fun x h1 h2 h3 h4 => z.2 x (by omega) h2 h3 h4⟩⟩
      by_cases e : x = j
      · subst e; rw [h3, h4] at hb; exact absurd hb (by decide)
      · exact z.2 x (by omega) h2 h3 h4
    rcases Bool.eq_false_or_eq_true (mE.testBit r) with hbr | hbr
    · rw [if_pos hbr]
      rcases Bool.eq_false_or_eq_true (mE.testBit j) with hbj | hbj
      · rw [if_pos hbj]
        have hP := cnt_lt i (mn t.ed (2 ^ r)) r j
        have hidx : (7 : Int32) * nI r + nI j = nI (7 * r + j) := by rw [lq7, pk_mul, nI_add]
        rw [hidx, rL_n (by omega) (by omega), rL_n (by omega) (by omega), v_pair q i hN (hme r hbr) (hme j hbj) (by omega), bP_s, lN_lZ (cntC t (mn t.ed (2 ^ r)) r j), v_is hN (by omega) (by omega) (by omega), bP_s]
        simp only [lI]
        rw [bI_and, nI_1]
        obtain ⟨v, e1, g1⟩ := ih (j + 1) n (b && decide (ν.2 10 (7 * r + j) = prt (cntC t (mn t.ed (2 ^ r)) r j : Nat) (cntC t t.ed 0 0) 0 ∧ ν.2 11 (7 * r + j) = prt (cntC t (mn t.ed (2 ^ r)) r j : Nat) (cntC t t.ed 0 0) 1)) (by omega) (by omega)
        refine ⟨v, e1, ?_⟩
        rw [g1, Bool.and_eq_true, decide_eq_true_iff]
        constructor
        · rintro ⟨⟨z1, z2⟩, z3⟩
          refine ⟨z1, fun x h1 h2 h3 h4 => ?_⟩
          by_cases e : x = j
          · rw [e]; exact z2
          · exact z3 x (by omega) h2 h3 h4
        · rintro ⟨z1, z2⟩
          exact ⟨⟨z1, z2 j (Nat.le_refl _) (by omega) hbr hbj⟩, fun x h1 h2 h3 h4 => z2 x (by omega) h2 h3 h4⟩
      · rw [if_neg (by rw [hbj]; decide)]
        exact skip (by rw [hbj]; simp)
    · rw [if_neg (by rw [hbr]; decide)]
      exact skip (by rw [hbr]; rfl)
theorem s1336 {ρ : Type} {K : Int32 → Option ρ} (q : RQ ν t) (i : IN t) (hN : 200 ≤ N) {mE : Nat} (hm7 : mE < 128) (hme : ∀ k, mE.testBit k = true → t.ed.testBit k = true) : ∀ d r n (b : Bool), r + d = 7 → d < n →
    ∃ v, fl_L_law_1336 N L xs γ ν (nI (mE ||| 128)) x15 x16 x19 (lN (cntC t t.ed 0 0)) K n (bI b) (nI r) = K (bI v) ∧ (v = true ↔ b = true ∧ ∀ y x, r ≤ y → y < 7 → x < y → mE.testBit y = true → mE.testBit x = true → Ml t ν y x) := by
  have h8 := or128_lt hm7
  have hpos : 128 ≤ mE ||| 128 := Nat.right_le_or
  intro d
  induction d with
  | zero =>
    intro r n b hr hn
    obtain ⟨n, rfl⟩ : ∃ m, n = m + 1 := ⟨n - 1, by omega⟩
    refine ⟨b, ?_, fun h => ⟨h, fun y x h1 h2 => by omega⟩, fun h => h.1⟩
    rw [fl_L_law_1336, lq7, if_pos (nI_le (by omega) (by omega))]
  | succ d ih =>
    intro r n b hr hn
    obtain ⟨n, rfl⟩ : ∃ m, n = m + 1 := ⟨n - 1, by omega⟩
    rw [fl_L_law_1336, lq7, if_neg (nI_ge (by omega) (by omega)), ck_s (by omega), if_neg (show ¬ nI (mE ||| 128) ≤ 0 from nI_ge (a := 0) (by omega) (by omega))]
    obtain ⟨v1, e1, g1⟩ := s1351 (N := N) (L := L) (xs := xs) (γ := γ) (x15 := x15) (x16 := x16) (x19 := x19) (K := fun v17 => fl_L_law_1336 N L xs γ ν (nI (mE ||| 128)) x15 x16 x19 (lN (cntC t t.ed 0 0)) K n v17 (nI r + 1)) q i hN hm7 hme (show r < 7 by omega) r 0 7 b (by omega) (by omega)
    obtain ⟨v, e2, g2⟩ := ih (r + 1) n v1 (by omega) (by omega)
    refine ⟨v, e1.trans (by rw [nI_1]; exact e2), ?_⟩
    rw [g2, g1]
    constructor
    · rintro ⟨⟨z1, z2⟩, z3⟩
      refine ⟨z1, fun y x h1 h2 h3 h4 h5 => ?_⟩
      rcases Nat.lt_or_ge r y with z | z
      · exact z3 y x z h2 h3 h4 h5
      · have e : y = r := by omega
        subst e
        exact z2 x (Nat.zero_le _) h3 h4 h5
    · rintro ⟨z1, z2⟩
      exact ⟨⟨z1, fun x _ h2 h3 h4 => z2 r x (Nat.le_refl _) (by omega) h2 h3 h4⟩, fun y x h1 h2 h3 h4 h5 => z2 y x (by omega) h2 h3 h4 h5⟩
/-- both look alike -/
theorem l_keeps (h : RT N σ ν mk t B) (hN : 200 ≤ N) {x19 : Int32} : ∃ v s1, f_X7_keeps N σ = some (bI v, s1) ∧ EqC σ s1 ∧ ∀ {ρ : Type} (γ : Wd) (K : Int32 → Option ρ), fl_L_law_1336 N L xs γ ν mk x15 x16 x19 (lN (cntC t t.ed 0 0)) K 8 1 0 = K (bI v) := by
  have i := h.2.2.1
  have h7 := i.ed7
  obtain ⟨mE, a1, a2, a3, a4⟩ := h.2.2.2.2.1
  have hm7 : mE < 128 := lt_of_bits (n := 7) (fun k hk => bit7 h7 (a2 k hk))
  obtain ⟨s1, e1, f1⟩ := v_countRest (N := N) h.1 i (by omega)
  obtain ⟨s2, f2, hs⟩ := v_keeps7 (N := N) (K := fun s12 => some ((1 : Int32), s12)) i (by omega) hm7 a2 7 0 N s1 (by omega) (by omega) (f1.RN h.1) (by rw [f1.2 40 (by omega)]; exact a1)
  have same : ∀ x y, x < y → y < 7 → mE.testBit x = true → mE.testBit y = true → (Mt t s1 x y ↔ Ml t ν y x) := fun x y hxy hy hx' hy' => by
    unfold Mt Ml
    rw [f1.1, (a4 x y hxy hy hx' hy').1, (a4 x y hxy hy hx' hy').2, ans_sym i (a2 x hx') (a2 y hy') (by omega), ans_sym i (a2 x hx') (a2 y hy') (by omega)]
  have fin : ∀ v : Bool, (v = true ↔ ∀ x y, x < y → y < 7 → mE.testBit x = true → mE.testBit y = true → Mt t s1 x y) → f_X7_keeps N σ = some (bI v, s2) := fun v hv => by
    unfold f_X7_keeps
    rw [e1, bS_s]
    rcases hs with ⟨q1, q2⟩ | ⟨⟨x, y, hxy, hy, hx', hy', hne⟩, q2⟩
    · have : v = true := hv.mpr (fun x y hxy hy hx' hy' => q1 x y (by omega) hxy hy hx' hy')
      rw [this]; exact q2
    · have : v = false := by
        cases v
        · rfl
        · exact absurd (hv.mp rfl x y hxy hy hx' hy') hne
      rw [this]; exact q2
  rcases a3 with ⟨z1, z2⟩ | z1
  · refine ⟨true, s2, fin true ⟨fun _ x y _ _ hx' _ => ?_, fun _ => rfl⟩, (f1.trans f2).eq, fun {ρ} γ K => ?_⟩
    · rw [z2] at hx'; simp at hx'
    · rw [z1, fl_L_law_1336, if_neg (by decide), ck_s (by decide), if_pos (by decide)]
      rfl
  · haveI := Classical.propDecidable (∀ x y, x < y → y < 7 → mE.testBit x = true → mE.testBit y = true → Mt t s1 x y)
    refine ⟨decide (∀ x y, x < y → y < 7 → mE.testBit x = true → mE.testBit y = true → Mt t s1 x y), s2, fin _ decide_eq_true_iff, (f1.trans f2).eq, fun {ρ} γ K => ?_⟩
    obtain ⟨v, e2, g2⟩ := s1336 (N := N) (L := L) (xs := xs) (γ := γ) (x15 := x15) (x16 := x16) (x19 := x19) (K := K) h.2.1 i hN hm7 a2 7 0 8 true (by omega) (by omega)
    rw [z1]
    refine Eq.trans e2 ?_
    congr 2
    apply Bool.eq_iff_iff.mpr
    rw [g2, decide_eq_true_iff]
    constructor
    · rintro ⟨-, q⟩ x y hxy hy hx' hy'
      exact (same x y hxy hy hx' hy').mpr (q y x (Nat.zero_le _) hy hxy hy' hx')
    · intro q
      exact ⟨rfl, fun y x _ hy hxy hy' hx' => (same x y hxy hy hx' hy').mp (q x y hxy hy hx' hy')⟩
end marks
