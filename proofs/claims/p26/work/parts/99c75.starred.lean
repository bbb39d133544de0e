/-! THE LAW'S LOOK: values, starred. -/
/-- what the look wants -/
def Lk (γ ν : Wd) (t : Nt) : Prop := RN γ t ∧ RQ ν t ∧ IN t ∧ t.ed ≠ 0 ∧ RV γ ν t
theorem Lk.eq {γ γ' ν : Wd} {t : Nt} (h : Lk γ ν t) (g : EqC γ γ') : Lk γ' ν t := ⟨g.RN h.1, h.2.1, h.2.2.1, h.2.2.2.1, fun i hi => by rw [g.1 57 (by omega)]; exact h.2.2.2.2 i hi⟩
def vlL (ν : Wd) (j : Nat) : Int := (ν.1 9 j).toInt
theorem Lk.vb {γ ν : Wd} {t : Nt} (h : Lk γ ν t) : ∀ j, j < 7 → -99 ≤ vlL ν j ∧ vlL ν j ≤ 99 := fun j hj => (h.2.2.2.2 j hj).2.1
theorem Lk.vc {γ ν : Wd} {t : Nt} (h : Lk γ ν t) : ∀ j, j < 7 → (γ.1 57 j).toInt = vlL ν j := fun j hj => by rw [(h.2.2.2.2 j hj).1]; rfl
theorem is_yes {N : Nat} (hN : 200 ≤ N) {u : Int} {l : Nat} (h1 : -2 ^ 63 < u) (h2 : u < 2 ^ 63) (hl : l < 2 ^ 63) : f_L_is N (prt u l 0) (prt u l 1) (lZ u) (lN l) = some 1 := by
  rw [v_is hN h1 h2 hl, decide_eq_true ⟨rfl, rfl⟩]; rfl
theorem star_sets : ∀ S : Fin 128, ∀ e : Fin 7, S.val.testBit e.val = true →
    (pc S.val ≠ 3 → (mn S.val (2 ^ e.val) &&& (mn S.val (2 ^ e.val) - 1)) = 0 ∨ ((mn S.val (2 ^ e.val) &&& (mn S.val (2 ^ e.val) - 1)) &&& ((mn S.val (2 ^ e.val) &&& (mn S.val (2 ^ e.val) - 1)) - 1)) ≠ 0) ∧
    (pc S.val = 3 → ∀ a b : Fin 7, isO S.val e.val a.val b.val = true → mn S.val (2 ^ e.val) ≠ 0 ∧ (mn S.val (2 ^ e.val) &&& (mn S.val (2 ^ e.val) - 1)) ≠ 0 ∧ ((mn S.val (2 ^ e.val) &&& (mn S.val (2 ^ e.val) - 1)) &&& ((mn S.val (2 ^ e.val) &&& (mn S.val (2 ^ e.val) - 1)) - 1)) = 0 ∧
      (mn S.val (2 ^ e.val)).testBit a.val = true ∧ (mn S.val (2 ^ e.val) &&& (mn S.val (2 ^ e.val) - 1)).testBit b.val = true ∧ (∀ k : Fin 7, k.val < a.val → (mn S.val (2 ^ e.val)).testBit k.val = false) ∧ ∀ k : Fin 7, k.val < b.val → (mn S.val (2 ^ e.val) &&& (mn S.val (2 ^ e.val) - 1)).testBit k.val = false) := by decide +kernel
theorem nI_dec {m : Nat} (h : m ≠ 0) : nI m - 1 = nI (m - 1) := by
  obtain ⟨e, rfl⟩ : ∃ e, m = e + 1 := ⟨m - 1, by omega⟩
  exact nI_pred e
theorem and_dec (m : Nat) : nI m &&& (nI m - 1) = nI (m &&& (m - 1)) := by
  by_cases h : m = 0
  · subst h; decide
  · rw [nI_dec h, fa_and]
section told
variable {N : Nat} {γ ν : Wd} {t : Nt}
theorem l_values (h : Lk γ ν t) (hN : 200 ≤ N) {e : Nat} (e7 : e < 7) : ∃ s, f_L_areValues N γ ν (nI e) (lN (cntC t t.ed 0 0)) = some (1, s) ∧ EqC γ s := by
  obtain ⟨r, q, i, he, -⟩ := id h
  have h7 := i.nd7
  have h7' := i.ed7
  have hR := cnt_lt i t.ed 0 0
  obtain ⟨p1, p2⟩ := pow_63 i h.vb
  obtain ⟨s1, e1, f1⟩ := x_power (N := N) r i hN h.vb h.vc 0
  have h1 := h.eq f1
  obtain ⟨s2, e2, f2⟩ := x_power (N := N) h1.1 i hN h1.vb h1.vc 1
  have h2 := h1.eq f2
  have fr := f1.trans f2
  unfold f_L_areValues
  have e9 : ∀ K : Int64 → Option (Int32 × Wd), fl_L_areValues_9 N γ ν (nI e) (lN (cntC t t.ed 0 0)) K 8 0 0 0 = K (lZ (pow' t (vlL ν))) := fun (K : Int64 → Option (Int32 × Wd)) => s9 (N := N) (γ := γ) (x1 := nI e) (x2 := lN (cntC t t.ed 0 0)) (K := K) q i hN h.vb (fun j _ => rfl) 7 0 8 0 (by omega) (by omega)
  rw [e9, e1, bS_s, e2, bS_s, is_yes hN p1 p2 (by omega), bP_s, if_neg (by decide), rg_1 q, c_in (by omega) (by omega), if_bI0]
  rcases Bool.eq_false_or_eq_true (t.nd.testBit e) with hn | hn
  · rw [if_pos hn, rg_2 q, c_in (by omega) (by omega), if_bI1]
    rcases Bool.eq_false_or_eq_true (t.ed.testBit e) with hb | hb
    · rw [if_pos hb]
      have e206 : ∀ K : Int64 → Option (Int32 × Wd), fl_L_areValues_206 N s2 ν (nI e) (lN (cntC t t.ed 0 0)) K 8 0 0 = K (lZ (cur t (vlL ν) e)) := fun (K : Int64 → Option (Int32 × Wd)) => s206 (N := N) (γ := s2) (x2 := lN (cntC t t.ed 0 0)) (K := K) q i hN h.vb (fun j _ => rfl) hb 7 0 8 (by omega) (by omega)
      rw [e206]
      obtain ⟨s3, e3, f3⟩ := x_current (N := N) h2.1 i hN h2.vb h2.vc hb 0
      have h3 := h2.eq f3
      obtain ⟨s4, e4, f4⟩ := x_current (N := N) h3.1 i hN h3.vb h3.vc hb 1
      have h4 := h3.eq f4
      obtain ⟨c1, c2⟩ := cur_63 i h.vb hb
      have hvb := h.vb e e7
      have e5 := x_potential_e (N := N) h4.1 i hN hb 0
      have e6 := x_potential_e (N := N) h4.1 i hN hb 1
      rw [h4.vc e e7] at e5 e6
      refine ⟨s4, ?_, fr.trans (f3.trans f4)⟩
      rw [e3, bS_s, e4, bS_s, is_yes hN c1 c2 (by omega), bP_s, if_neg (by decide), e5, bS_s, e6, bS_s, rI_n e7 (by omega), i64_lZ, show (1 : Int64) = lN 1 from rfl]
      have hy := is_yes (N := N) hN (u := vlL ν e) (l := 1) (by omega) (by omega) (by omega)
      rw [show (ν.1 9 e).toInt = vlL ν e from rfl, hy, bP_s, if_neg (by decide)]
    · rw [if_neg (by rw [hb]; decide)]
      have e330 : ∀ K : Int64 → Option (Int32 × Wd), fl_L_areValues_330 N s2 ν (nI e) (lN (cntC t t.ed 0 0)) K 8 0 0 = K (lZ (pot t (vlL ν) e)) := fun (K : Int64 → Option (Int32 × Wd)) => s330 (N := N) (γ := s2) (x2 := lN (cntC t t.ed 0 0)) (K := K) q i hN he (v := vlL ν) (fun j _ => rfl) hn hb 7 0 8 (by omega) (by omega)
      rw [e330]
      obtain ⟨s3, e3, f3⟩ := x_potential (N := N) h2.1 i hN h2.vb h2.vc hn hb 0
      have h3 := h2.eq f3
      obtain ⟨s4, e4, f4⟩ := x_potential (N := N) h3.1 i hN h3.vb h3.vc hn hb 1
      have h4 := h3.eq f4
      obtain ⟨c1, c2⟩ := pot_63 i h.vb e
      refine ⟨s4, ?_, fr.trans (f3.trans f4)⟩
      rw [e3, bS_s, e4, bS_s, is_yes hN c1 c2 (by omega), bP_s, if_neg (by decide), x_current_no h4.1 i e7 hb, bS_s, if_pos (by rw [lg_cmp_eq])]
  · rw [if_neg (by rw [hn]; decide)]
    have hb : t.ed.testBit e = false := by
      cases hb : t.ed.testBit e
      · rfl
      · rw [i.edn e hb] at hn; exact absurd hn (by decide)
    refine ⟨s2, ?_, fr⟩
    rw [x_potential_no h2.1 i e7 hn, bS_s, if_pos (by rw [lg_cmp_eq]), x_current_no h2.1 i e7 hb, bS_s, if_pos (by rw [lg_cmp_eq])]
theorem le0N {n : Nat} (h : n < 2 ^ 63) : (lg_cmp (lN n) 0 ≤ 0) ↔ n = 0 := by rw [lg_cmp_le, lN_le0 h]
theorem l_starred (h : Lk γ ν t) (hN : 200 ≤ N) {e : Nat} (e7 : e < 7) : ∃ s, f_L_isStarred N γ ν (nI e) (lN (cntC t 1 0 0)) (lN (cntC t t.ed 0 0)) = some (1, s) ∧ EqC γ s := by
  obtain ⟨r, q, i, hed, -⟩ := id h
  have h7 := i.ed7
  have hR := cnt_lt i t.ed 0 0
  have hT := cnt_lt i 1 0 0
  unfold f_L_isStarred
  rw [rg_1 q, rg_2 q, fa_and, nd_and i]
  simp only [lI]
  rw [c_in (by omega) (by omega), if_bI0]
  rcases Bool.eq_false_or_eq_true (t.ed.testBit e) with he | he
  · rw [if_pos he, c_shl (by omega), mn_c]
    obtain ⟨z1, z2⟩ := star_sets ⟨t.ed, h7⟩ ⟨e, e7⟩ he
    simp only at z1 z2
    have ho : mn t.ed (2 ^ e) < 128 := Nat.lt_of_le_of_lt (mn_le _ _) h7
    have hm : mn t.ed (2 ^ e) &&& (mn t.ed (2 ^ e) - 1) < 128 := Nat.lt_of_le_of_lt Nat.and_le_left ho
    have hm2 : (mn t.ed (2 ^ e) &&& (mn t.ed (2 ^ e) - 1)) &&& ((mn t.ed (2 ^ e) &&& (mn t.ed (2 ^ e) - 1)) - 1) < 128 := Nat.lt_of_le_of_lt Nat.and_le_left hm
    have y1 : (nI (mn t.ed (2 ^ e)) = 0) ↔ mn t.ed (2 ^ e) = 0 := by rw [lq0]; exact nI_eq (by omega) (by omega)
    have y2 : (nI (mn t.ed (2 ^ e) &&& (mn t.ed (2 ^ e) - 1)) = 0) ↔ (mn t.ed (2 ^ e) &&& (mn t.ed (2 ^ e) - 1)) = 0 := by rw [lq0]; exact nI_eq (by omega) (by omega)
    have y3 : (nI ((mn t.ed (2 ^ e) &&& (mn t.ed (2 ^ e) - 1)) &&& ((mn t.ed (2 ^ e) &&& (mn t.ed (2 ^ e) - 1)) - 1)) = 0) ↔ ((mn t.ed (2 ^ e) &&& (mn t.ed (2 ^ e) - 1)) &&& ((mn t.ed (2 ^ e) &&& (mn t.ed (2 ^ e) - 1)) - 1)) = 0 := by rw [lq0]; exact nI_eq (by omega) (by omega)
    rw [and_dec, and_dec]
    by_cases h3 : pc t.ed = 3
    · obtain ⟨⟨a, a7⟩, ⟨b, b7⟩, ab, o1, -, sa, sb, ae, be, o3, o4, o5⟩ := three ⟨t.ed, h7⟩ h3 ⟨e, e7⟩ he
      simp only [Fin.ext_iff, ne_eq] at ab o1 sa sb ae be o3 o4 o5
      obtain ⟨w1, w2, w3, w4, w5, w6, w7⟩ := z2 h3 ⟨a, a7⟩ ⟨b, b7⟩ o1
      simp only at w4 w5 w6 w7
      have ue : U t e = cntC t (mn t.ed (2 ^ a)) a b := U_of o1
      have ua : U t a = cntC t (mn t.ed (2 ^ e)) e b := by
        rcases o3 with o | o
        · exact U_of o
        · rw [U_of o]; exact cnt_sym i sb he be
      have ub : U t b = cntC t (mn t.ed (2 ^ e)) e a := by
        rcases o4 with o | o
        · exact U_of o
        · rw [U_of o]; exact cnt_sym i sa he ae
      have l1 := cnt_lt i (mn t.ed (2 ^ a)) a b
      have l2 := cnt_lt i (mn t.ed (2 ^ e)) e b
      have l3 := cnt_lt i (mn t.ed (2 ^ e)) e a
      have hl1 : f_L_lowest N (nI (mn t.ed (2 ^ e))) = some (nI a) := v_lowest (by omega) (by omega) w4 (fun j hj => w6 ⟨j, by omega⟩ hj)
      have hl2 : f_L_lowest N (nI (mn t.ed (2 ^ e) &&& (mn t.ed (2 ^ e) - 1))) = some (nI b) := v_lowest (by omega) (by omega) w5 (fun j hj => w7 ⟨j, by omega⟩ hj)
      have pab := v_pair (N := N) q i hN sa sb (show a ≠ b by omega)
      have pea := v_pair (N := N) q i hN he sa (fun z => ae z.symm)
      have peb := v_pair (N := N) q i hN he sb (fun z => be z.symm)
      simp only [jn_p]
      rw [if_neg (fun z => w1 (y1.mp z)), hl1, bP_s, if_neg (fun z => w2 (y2.mp z)), if_pos (y3.mpr w3), hl2, bP_s, pab, bP_s]
      obtain ⟨s1, f1, hs1⟩ := x_starred (N := N) r i hN he h3 0
      have r1 := f1.RN r
      obtain ⟨s2, f2, hs2⟩ := x_starred (N := N) r1 i hN he h3 1
      have bad : (∃ x, x < 7 ∧ t.ed.testBit x = true ∧ U t x = 0) → cntC t (mn t.ed (2 ^ a)) a b ≠ 0 → cntC t (mn t.ed (2 ^ e)) e a ≠ 0 → cntC t (mn t.ed (2 ^ e)) e b ≠ 0 → False := by
        rintro ⟨k, k7, kb, kz⟩ n1 n2 n3
        rcases o5 ⟨k, k7⟩ kb with z | z | z
        · simp only at z; rw [z, ue] at kz; exact n1 kz
        · simp only at z; rw [z, ua] at kz; exact n3 kz
        · simp only at z; rw [z, ub] at kz; exact n2 kz
      -- none are
      have zero : (cntC t (mn t.ed (2 ^ a)) a b = 0 ∨ cntC t (mn t.ed (2 ^ e)) e a = 0 ∨ cntC t (mn t.ed (2 ^ e)) e b = 0) → ∃ s, (bS (f_L_starred N γ (nI e) 0) fun v14 s15 => bS (f_L_starred N s15 (nI e) 1) fun v16 s17 => if (0 : Int32) = 0 then (if (0 : Int32) = 0 then (bP (f_L_is N v14 v16 0 0) fun v20 => zb v20 (some (v20, s17))) else (bP (f_L_is N v14 v16 0 (lN (cntC t (mn t.ed (2 ^ a)) a b))) fun v20 => zb v20 (some (v20, s17)))) else (if (0 : Int32) = 0 then (bP (f_L_is N v14 v16 (lN (cntC t 1 0 0)) 0) fun v20 => zb v20 (some (v20, s17))) else (bP (f_L_is N v14 v16 (lN (cntC t 1 0 0)) (lN (cntC t (mn t.ed (2 ^ a)) a b))) fun v20 => zb v20 (some (v20, s17))))) = some (1, s) ∧ EqC γ s := fun hz => by
        have nall : ¬ ∀ x, x < 7 → t.ed.testBit x = true → U t x ≠ 0 := fun hall => by
          rcases hz with z | z | z
          · exact hall e e7 he (ue.trans z)
          · exact hall b b7 sb (ub.trans z)
          · exact hall a a7 sa (ua.trans z)
        rcases hs1 with ⟨g1, -⟩ | ⟨-, g1⟩
        · exact absurd g1 nall
        · rcases hs2 with ⟨g2, -⟩ | ⟨-, g2⟩
          · exact absurd g2 nall
          · refine ⟨s2, ?_, f1.trans f2⟩
            have hy := is_yes (N := N) hN (u := 0) (l := 0) (by omega) (by omega) (by omega)
            have hy' : f_L_is N 0 0 0 0 = some 1 := hy
            rw [g1, bS_s, g2, bS_s, if_pos rfl, if_pos rfl, hy', bP_s]
            rfl
      by_cases n1 : cntC t (mn t.ed (2 ^ a)) a b = 0
      · by_cases n0 : cntC t t.ed 0 0 = 0
        · rw [if_pos ((le0N (by omega)).mpr n0)]
          exact zero (Or.inl n1)
        · rw [if_neg (fun z => n0 ((le0N (by omega)).mp z)), if_pos ((le0N (by omega)).mpr n1)]
          exact zero (Or.inl n1)
      · have hr := rest_pos i sa sb (show a ≠ b by omega) (by omega)
        rw [if_neg (fun z => by have := (le0N (by omega)).mp z; omega), if_neg (fun z => n1 ((le0N (by omega)).mp z)), pea, bP_s]
        by_cases n2 : cntC t (mn t.ed (2 ^ e)) e a = 0
        · rw [if_pos ((le0N (by omega)).mpr n2)]
          exact zero (Or.inr (Or.inl n2))
        · rw [if_neg (fun z => n2 ((le0N (by omega)).mp z)), peb, bP_s]
          by_cases n3 : cntC t (mn t.ed (2 ^ e)) e b = 0
          · rw [if_pos ((le0N (by omega)).mpr n3)]
            exact zero (Or.inr (Or.inr n3))
          · rw [if_neg (fun z => n3 ((le0N (by omega)).mp z))]
            rcases hs1 with ⟨-, g1⟩ | ⟨g1, -⟩
            · rcases hs2 with ⟨-, g2⟩ | ⟨g2, -⟩
              · refine ⟨s2, ?_, f1.trans f2⟩
                rw [ue] at g1 g2
                rw [g1, bS_s, g2, bS_s, if_neg (by decide), if_neg (by decide), lN_lZ (cntC t 1 0 0), is_yes hN (by omega) (by omega) (by omega), bP_s]
                rfl
              · exact (bad g2 n1 n2 n3).elim
            · exact (bad g1 n1 n2 n3).elim
    · have zz := z1 h3
      have fin : ∃ s, (bS (f_L_starred N γ (nI e) 1) fun v7 s8 => if (lg_cmp v7 0) = 0 then (bS (f_L_starred N s8 (nI e) 0) fun v9 s10 => if (lg_cmp v9 0) = 0 then (some ((1 : Int32), s10)) else (some (0, s10))) else (some (0, s8))) = some (1, s) ∧ EqC γ s := by
        refine ⟨γ, ?_, EqC.rfl' γ⟩
        rw [x_starred_0 r i he h3, bS_s, if_pos (by decide), x_starred_0 r i he h3, bS_s, if_pos (by decide)]
      simp only [jn_p]
      by_cases o0 : mn t.ed (2 ^ e) = 0
      · have m0 : mn t.ed (2 ^ e) &&& (mn t.ed (2 ^ e) - 1) = 0 := by rw [o0]; rfl
        rw [if_pos (y1.mpr o0), if_pos (y2.mpr m0)]
        exact fin
      · have hlow : ∃ k, f_L_lowest N (nI (mn t.ed (2 ^ e))) = some (nI k) := by
          obtain ⟨l, b1, -, b3⟩ := low_off ⟨mn t.ed (2 ^ e), ho⟩ o0
          exact ⟨l.val, v_lowest (by omega) (by omega) b1 (fun j hj => b3 ⟨j, by omega⟩ hj)⟩
        obtain ⟨k, hk⟩ := hlow
        rw [if_neg (fun z => o0 (y1.mp z)), hk, bP_s]
        by_cases m0 : mn t.ed (2 ^ e) &&& (mn t.ed (2 ^ e) - 1) = 0
        · rw [if_pos (y2.mpr m0)]
          exact fin
        · rw [if_neg (fun z => m0 (y2.mp z)), if_neg (fun z => (zz.resolve_left m0) (y3.mp z))]
          exact fin
  · rw [if_neg (by rw [he]; decide)]
    refine ⟨γ, ?_, EqC.rfl' γ⟩
    rw [x_starred_no r i e7 he, bS_s, if_pos (by rw [lg_cmp_eq])]
end told
