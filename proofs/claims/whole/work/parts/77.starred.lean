/-! STARRED. -/
/-- the two other edges, as the class finds them, and as the reference writes them -/
def opp (S e : Nat) : Nat → Nat → Option Nat → Option (Nat × Nat)
  | 0, _, _ => none
  | d + 1, k, x => if k = e ∨ S.testBit k = false then opp S e d (k + 1) x else match x with
    | none => opp S e d (k + 1) (some k)
    | some a => some (a, k)
def oth (S e : Nat) : Nat → Nat → Nat → Nat
  | 0, _, x => x
  | d + 1, k, x => if k = e ∨ S.testBit k = false then oth S e d (k + 1) x else oth S e d (k + 1) (10 * x + k)
def isO (S e : Nat) (a b : Nat) : Bool := opp S e 7 0 none == some (a, b)
theorem three : ∀ S : Fin 128, pc S.val = 3 → ∀ e : Fin 7, S.val.testBit e.val = true → ∃ a b : Fin 7, a.val < b.val ∧ isO S.val e.val a.val b.val = true ∧ oth S.val e.val 7 0 0 = 10 * a.val + b.val ∧ S.val.testBit a.val = true ∧ S.val.testBit b.val = true ∧ a ≠ e ∧ b ≠ e ∧
    (isO S.val a.val e.val b.val = true ∨ isO S.val a.val b.val e.val = true) ∧ (isO S.val b.val e.val a.val = true ∨ isO S.val b.val a.val e.val = true) ∧ ∀ k : Fin 7, S.val.testBit k.val = true → k = e ∨ k = a ∨ k = b := by decide +kernel
section star
variable {N : Nat} {σ τ : Wd} {t : Nt}
def oX : Option Nat → Int32
  | none => -1
  | some a => nI a
theorem v_opp4 (r : RN σ t) (i : IN t) {e : Nat} (he : e < 7) {K : Unit → Option (Int64 × Wd)} : ∀ d k n x, k + d = 7 → d < n → (∀ a, x = some a → a < 7) →
    fl_X7_upperOfOppositeAnswer_4 N σ (nI e) K n (oX x) (nI k) = match opp t.ed e d k x with
      | none => K ()
      | some ab => bS (f_X7_upperOfAnswer N σ (nI ab.1) (nI ab.2)) fun v3 s4 => some (v3, s4) := by
  intro d
  induction d with
  | zero =>
    intro k n x hk hn hx
    obtain ⟨n, rfl⟩ : ∃ m, n = m + 1 := ⟨n - 1, by omega⟩
    rw [fl_X7_upperOfOppositeAnswer_4, show k = 7 by omega, lq7, if_pos (nI_le (Nat.le_refl _) (by omega))]
    rfl
  | succ d ih =>
    intro k n x hk hn hx
    obtain ⟨n, rfl⟩ : ∃ m, n = m + 1 := ⟨n - 1, by omega⟩
    rw [fl_X7_upperOfOppositeAnswer_4]
    simp (disch := omega) only [lq7, nI_leI, if_neg, jn_e, nI_1, nI_eq]
    unfold opp
    by_cases q : k = e
    · rw [if_pos q, if_pos (Or.inl q)]
      exact ih (k + 1) n x (by omega) (by omega) hx
    · rw [if_neg q, v_hasEdge r i, bP_s, if_bI0, inS_n (by omega)]
      cases hb : t.ed.testBit k
      · rw [if_pos (Or.inr rfl)]
        exact ih (k + 1) n x (by omega) (by omega) hx
      · have hne : ¬ (k = e ∨ true = false) := fun z => z.elim q (fun w => absurd w (by decide))
        simp only [if_true, if_neg hne]
        cases x with
        | none =>
          rw [if_pos (show oX none = -1 from rfl)]
          exact ih (k + 1) n (some k) (by omega) (by omega) (fun a ha => by simp at ha; omega)
        | some a =>
          have ha := hx a rfl
          rw [if_neg (show ¬ oX (some a) = -1 from fun z => by
            have := nI_m1 (show a < 2 ^ 31 by omega)
            rw [← this]; exact z)]
          rfl
/-- the count of the answer of the two others -/
noncomputable def U (t : Nt) (e : Nat) : Nat := match opp t.ed e 7 0 none with
  | none => 0
  | some ab => cntC t (mn t.ed (2 ^ ab.1)) ab.1 ab.2
theorem opp_lt {S e : Nat} : ∀ d k x, k + d = 7 → (∀ a, x = some a → a < 7) → ∀ ab, opp S e d k x = some ab → ab.1 < 7 ∧ ab.2 < 7
  | 0, k, x, _, _, ab, h => nomatch h
  | d + 1, k, x, hk, hx, ab, h => by
    unfold opp at h
    split at h
    · exact opp_lt d (k + 1) x (by omega) hx ab h
    · cases x with
      | none => exact opp_lt d (k + 1) (some k) (by omega) (fun a ha => by simp at ha; omega) ab h
      | some a =>
        simp at h
        subst h
        exact ⟨hx a rfl, by show k < 7; omega⟩
theorem v_opposite (r : RN σ t) (i : IN t) (hN : 100 ≤ N) {e : Nat} (he : e < 7) : ∃ σ', f_X7_upperOfOppositeAnswer N σ (nI e) = some (lN (U t e), σ') ∧ FrC σ σ' := by
  have key := v_opp4 (N := N) (K := fun _ => some ((0 : Int64), σ)) r i he 7 0 N none (by omega) (by omega) (fun a ha => nomatch ha)
  unfold f_X7_upperOfOppositeAnswer
  unfold U
  cases hq : opp t.ed e 7 0 none with
  | none =>
    rw [hq] at key
    exact ⟨σ, key, FrC.rfl' σ⟩
  | some ab =>
    rw [hq] at key
    obtain ⟨h1, h2⟩ := opp_lt 7 0 none (by omega) (fun a ha => nomatch ha) ab hq
    obtain ⟨s, e1, f1⟩ := v_upperOfAnswer (N := N) r i hN h1 h2
    refine ⟨s, ?_, f1⟩
    refine Eq.trans key ?_
    show bS (f_X7_upperOfAnswer N σ (nI ab.1) (nI ab.2)) _ = _
    rw [e1, bS_s]
theorem U_lt (i : IN t) (e : Nat) : U t e < 2 ^ 62 := by
  unfold U
  split
  · decide
  · exact cnt_lt i _ _ _
theorem v_star23 (i : IN t) (hN : 100 ≤ N) {x y : Int32} {K : Wd → Option ((Nat ⊕ Int64) × Wd)} : ∀ d k n (s : Wd), k + d = 7 → d < n → RN s t →
    ∃ s', FrC s s' ∧ (((∀ e, k ≤ e → e < 7 → t.ed.testBit e = true → U t e ≠ 0) ∧ fl_X7_starred_23 N x y K n (nI k) s = K s') ∨ ((∃ e, e < 7 ∧ t.ed.testBit e = true ∧ U t e = 0) ∧ fl_X7_starred_23 N x y K n (nI k) s = some (.inr 0, s'))) := by
  intro d
  induction d with
  | zero =>
    intro k n s hk hn r
    obtain ⟨n, rfl⟩ : ∃ m, n = m + 1 := ⟨n - 1, by omega⟩
    refine ⟨s, FrC.rfl' s, Or.inl ⟨fun e h1 h2 => by omega, ?_⟩⟩
    rw [fl_X7_starred_23, show k = 7 by omega, lq7, if_pos (nI_le (Nat.le_refl _) (by omega))]
  | succ d ih =>
    intro k n s hk hn r
    obtain ⟨n, rfl⟩ : ∃ m, n = m + 1 := ⟨n - 1, by omega⟩
    rw [fl_X7_starred_23]
    simp (disch := omega) only [lq7, nI_leI, if_neg, jn_e, nI_1]
    rw [v_hasEdge r i, bP_s, if_bI0, inS_n (by omega)]
    cases hb : t.ed.testBit k
    · obtain ⟨s', f1, h⟩ := ih (k + 1) n s (by omega) (by omega) r
      refine ⟨s', f1, ?_⟩
      rcases h with ⟨h1, h2⟩ | h
      · refine Or.inl ⟨fun e e1 e2 e3 => ?_, h2⟩
        rcases Nat.lt_or_ge k e with z | z
        · exact h1 e z e2 e3
        · rw [show e = k by omega, hb] at e3; exact absurd e3 (by decide)
      · exact Or.inr h
    · simp only [if_true]
      obtain ⟨s1, e1, f1⟩ := v_opposite (N := N) r i hN (show k < 7 by omega)
      have hU := U_lt i k
      rw [e1, bS_s]
      by_cases hz : U t k = 0
      · rw [hz, if_pos (show lg_cmp (lN 0) 0 = 0 by decide)]
        exact ⟨s1, f1, Or.inr ⟨⟨k, by omega, hb, hz⟩, rfl⟩⟩
      · rw [if_neg (by rw [lg_cmp_eq, lN_eq0 (by omega)]; exact hz)]
        obtain ⟨s', f2, h⟩ := ih (k + 1) n s1 (by omega) (by omega) (f1.RN r)
        refine ⟨s', f1.trans f2, ?_⟩
        rcases h with ⟨h1, h2⟩ | h
        · refine Or.inl ⟨fun e e1 e2 e3 => ?_, h2⟩
          rcases Nat.lt_or_ge k e with z | z
          · exact h1 e z e2 e3
          · rw [show e = k by omega]; exact hz
        · exact Or.inr h
theorem m_others (r : RM τ t) (i : IN t) (hN : 100 ≤ N) {e : Nat} (he : e < 7) : f_X8_others N τ (nI e) = some (nI (oth t.ed e 7 0 0)) := by
  have go : ∀ d k n x, k + d = 7 → d < n → fl_X8_others_4 N τ (nI e) (fun v3 => some v3) n (nI x) (nI k) = some (nI (oth t.ed e d k x)) := by
    intro d
    induction d with
    | zero =>
      intro k n x hk hn
      obtain ⟨n, rfl⟩ : ∃ m, n = m + 1 := ⟨n - 1, by omega⟩
      rw [fl_X8_others_4, show k = 7 by omega, lq7, if_pos (nI_le (Nat.le_refl _) (by omega))]
      rfl
    | succ d ih =>
      intro k n x hk hn
      obtain ⟨n, rfl⟩ : ∃ m, n = m + 1 := ⟨n - 1, by omega⟩
      rw [fl_X8_others_4]
      simp (disch := omega) only [lq7, nI_leI, if_neg, jn_e, nI_1, nI_eq]
      rw [v_isEdge8 r i, bP_s, if_bI0, inS_n (by omega)]
      unfold oth
      cases hb : t.ed.testBit k
      · rw [if_pos (Or.inr rfl)]
        exact ih (k + 1) n x (by omega) (by omega)
      · simp only [if_true]
        by_cases q : k = e
        · rw [if_pos q, if_pos (Or.inl q)]
          exact ih (k + 1) n x (by omega) (by omega)
        · rw [if_neg q, if_neg (by rintro (z | z); exact q z; exact absurd z (by decide)), show (10 : Int32) = nI 10 from rfl, pk_mul, nI_add]
          exact ih (k + 1) n (10 * x + k) (by omega) (by omega)
  exact go 7 0 N 0 (by omega) (by omega)
theorem U_of {e a b : Nat} (h : isO t.ed e a b = true) : U t e = cntC t (mn t.ed (2 ^ a)) a b := by
  unfold isO at h
  rw [beq_iff_eq] at h
  unfold U
  rw [h]
theorem sim_starred (h : RT σ τ t) (hN : 5000 ≤ N) (x y : Int32) : SimX id (f_X7_starred N σ x y) (f_X8_starred N τ x y) := by
  have i := h.2.2.1
  have h7 := i.ed7
  have hn7 := i.nd7
  have hen : t.ed &&& t.nd = t.ed := by
    apply Nat.eq_of_testBit_eq
    intro k
    rw [Nat.testBit_and]
    cases hb : t.ed.testBit k
    · rfl
    · rw [i.edn k hb]; rfl
  unfold f_X7_starred f_X8_starred
  rw [v_needEdge h.1 i, v_isEdge8 h.2.1 i]
  simp only [bP_s, jn_e, wI, gI, thr_0, if_bI0]
  cases hx : inS t.ed x
  · exact ⟨σ, sI τ 0 0 1, ⟨t, h.eq (EqC.rfl' σ) (EqM.thr τ 1)⟩, Or.inl ⟨1, 0, Or.inl rfl, rfl, rfl, thr_0 _ _⟩⟩
  · simp only [if_true, bX]
    obtain ⟨e, he, rfl, heb⟩ := inS_elim (n := 7) h7 (by omega) hx
    have r0 := (EqM.thr τ 0).RM h.2.1
    rw [h.1.ed, v_bitCount (by omega), bP_s, if_neg (show ¬ (0 : Int32) < 0 by decide), r0.ed, r0.nd, fa_and, hen, v_many (by omega) (by omega), bP_s]
    have hp7 := pc_le7 h7
    by_cases h3 : pc t.ed = 3
    · rw [h3, if_pos (show nI 3 = 3 from rfl), if_pos (show nI 3 = 3 from rfl)]
      obtain ⟨⟨a, a7⟩, ⟨b, b7⟩, ab, o1, o2, sa, sb, ae, be, o3, o4, o5⟩ := three ⟨t.ed, h7⟩ h3 ⟨e, he⟩ heb
      simp only [Fin.ext_iff, ne_eq] at ab o1 o2 sa sb ae be o3 o4 o5
      have ue : U t e = cntC t (mn t.ed (2 ^ a)) a b := U_of o1
      have ua : U t a = cntC t (mn t.ed (2 ^ e)) e b := by
        rcases o3 with o | o
        · exact U_of o
        · rw [U_of o]; exact cnt_sym i sb heb be
      have ub : U t b = cntC t (mn t.ed (2 ^ e)) e a := by
        rcases o4 with o | o
        · exact U_of o
        · rw [U_of o]; exact cnt_sym i sa heb ae
      have l1 := U_lt i e
      have l2 := U_lt i a
      have l3 := U_lt i b
      have l4 := cnt_lt i t.ed 0 0
      have l5 := cnt_lt i 1 0 0
      rw [ue] at l1
      rw [ua] at l2
      rw [ub] at l3
      rw [m_others r0 i (by omega) he, bP_s, o2]
      simp only [dI, mI]
      rw [if_neg (show ¬ (10 : Int32) = 0 by decide), show (10 : Int32) = nI 10 from rfl, pk_div (by omega) (by omega) (by omega), show (10 * a + b) / 10 = a by omega, bP_s, if_neg (show ¬ nI 10 = 0 by decide), show nI (10 * a + b) - nI (10 * a + b) / nI 10 * nI 10 = nI b by rw [pk_rem (by omega) (by omega) (by omega)]; congr 1; omega]
      obtain ⟨u1, g1, k1⟩ := m_pair (N := N) r0 i hN sa b7
      obtain ⟨u2, g2, k2⟩ := m_pair (N := N) (k1.RM r0) i hN heb a7
      obtain ⟨u3, g3, k3⟩ := m_pair (N := N) (k2.RM (k1.RM r0)) i hN heb b7
      obtain ⟨u4, g4, k4⟩ := m_rest (N := N) (k3.RM (k2.RM (k1.RM r0))) i hN
      obtain ⟨u5, g5, k5⟩ := m_trees (N := N) (k4.RM (k3.RM (k2.RM (k1.RM r0)))) i hN
      rw [g1, bS_s, g2, bS_s]
      obtain ⟨s1, f1, hs⟩ := v_star23 (N := N) (x := nI e) (y := y) (K := fun s9 => bS (f_X7_countTrees N s9) fun v10 s11 => bS (f_X7_upperOfOppositeAnswer N s11 (nI e)) fun v12 s13 => bP (f_X7_partOf N v10 v12 y) fun v14 => some (.inr v14, s13)) i (by omega) 7 0 N σ (by omega) (by omega) h.1
      have zero : ∀ (s' u : Wd), FrC σ s' → FrM (sI τ 0 0 0) u → SimX id (some (Sum.inr 0, s') : Option ((Nat ⊕ Int64) × Wd)) (some ((0 : Int64), u)) := fun s' u c1 c2 => ⟨s', u, ⟨t, h.eq c1.eq ((EqM.thr τ 0).trans c2.eq)⟩, Or.inr ⟨0, rfl, rfl, thrK c2⟩⟩
      rw [show (0 : Int32) = nI 0 from rfl]
      by_cases z1 : cntC t (mn t.ed (2 ^ e)) e a = 0
      · rw [z1, if_pos (show lg_cmp (lN 0) 0 ≤ nI 0 by decide)]
        rcases hs with ⟨hs1, _⟩ | ⟨-, hs2⟩
        · exact absurd (ub.trans z1) (hs1 b (by omega) b7 sb)
        · rw [hs2]; exact zero s1 u2 f1 (k1.trans k2)
      · rw [if_neg (show ¬ lg_cmp (lN (cntC t (mn t.ed (2 ^ e)) e a)) 0 ≤ nI 0 by rw [show nI 0 = 0 from rfl, lg_cmp_le, lN_le0 (by omega)]; exact z1), show nI 0 = (0 : Int32) from rfl, g3, bS_s]
        by_cases z2 : cntC t (mn t.ed (2 ^ e)) e b = 0
        · rw [z2, if_pos (show lg_cmp (lN 0) 0 ≤ 0 by decide)]
          rcases hs with ⟨hs1, _⟩ | ⟨-, hs2⟩
          · exact absurd (ua.trans z2) (hs1 a (by omega) a7 sa)
          · refine Eq.mp ?_ (zero s1 u3 f1 (k1.trans (k2.trans k3)))
            congr 1
            exact hs2.symm
        · rw [if_neg (show ¬ lg_cmp (lN (cntC t (mn t.ed (2 ^ e)) e b)) 0 ≤ 0 by rw [lg_cmp_le, lN_le0 (by omega)]; exact z2)]
          by_cases z3 : cntC t (mn t.ed (2 ^ a)) a b = 0
          · rw [z3, if_pos (show lg_cmp (lN 0) 0 ≤ 0 by decide)]
            rcases hs with ⟨hs1, _⟩ | ⟨-, hs2⟩
            · exact absurd (ue.trans z3) (hs1 e (by omega) he heb)
            · refine Eq.mp ?_ (zero s1 u3 f1 (k1.trans (k2.trans k3)))
              congr 1
              exact hs2.symm
          · rw [if_neg (show ¬ lg_cmp (lN (cntC t (mn t.ed (2 ^ a)) a b)) 0 ≤ 0 by rw [lg_cmp_le, lN_le0 (by omega)]; exact z3), g4, bS_s]
            have hr := rest_pos i sa sb (show a ≠ b by omega) (by omega)
            rw [if_neg (show ¬ lg_cmp (lN (cntC t t.ed 0 0)) 0 ≤ 0 by rw [lg_cmp_le, lN_le0 (by omega)]; omega), if_neg (show ¬ (1 : Int32) = 0 by decide), g5, bS_s]
            rcases hs with ⟨-, hs2⟩ | ⟨⟨k, k7, kb, kz⟩, -⟩
            · obtain ⟨s2, e2, f2⟩ := v_countTrees (N := N) (f1.RN h.1) i (by omega)
              obtain ⟨s3, e3, f3⟩ := v_opposite (N := N) (f2.RN (f1.RN h.1)) i (by omega) he
              rw [ue] at e3
              refine ⟨s3, u5, ⟨t, h.eq (f1.eq.trans (f2.eq.trans f3.eq)) ((EqM.thr τ 0).trans (k1.trans (k2.trans (k3.trans (k4.trans k5)))).eq)⟩, Or.inr ⟨prt (cntC t 1 0 0 : Nat) (cntC t (mn t.ed (2 ^ a)) a b) y, ?_, ?_, thrK (k1.trans (k2.trans (k3.trans (k4.trans k5))))⟩⟩
              · refine Eq.trans hs2 ?_
                rw [e2, bS_s, e3, bS_s, lN_lZ (cntC t 1 0 0), v_partOf (by omega) (by omega) (by omega) (by omega), bP_s]
              · rw [lN_lZ (cntC t 1 0 0), v_part (by omega) (by omega) (by omega) (by omega), bP_s]
            · exfalso
              rcases o5 ⟨k, k7⟩ kb with q | q | q
              · simp only at q; rw [q, ue] at kz; exact z3 kz
              · simp only at q; rw [q, ua] at kz; exact z2 kz
              · simp only at q; rw [q, ub] at kz; exact z1 kz
    · have hne : ¬ nI (pc t.ed) = 3 := fun q => h3 ((nI_eq (b := 3) (by omega) (by omega)).mp q)
      rw [if_neg hne, if_neg hne]
      exact ⟨σ, sI τ 0 0 0, ⟨t, h.eq (EqC.rfl' σ) (EqM.thr τ 0)⟩, Or.inr ⟨0, rfl, rfl, thr_0 _ _⟩⟩
end star
