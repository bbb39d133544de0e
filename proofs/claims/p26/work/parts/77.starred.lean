/-! STARRED. -/
/-- the two other edges, as the class finds them, and as the reference writes them -/
def opp (S e : Nat) : Nat → Nat → Option Nat → Option (Nat × Nat)
  | 0, _, _ => none
  | d + 1, k, x => if k = e ∨ S.testBit k = false then opp S e d (k + 1) x else match x with
    | none => opp S e d (k + 1) (some k)
    | some a => some (a, k)
def oth (S e : Nat) : Nat → Nat → Nat → Nat
  | 0, _, x => x
  | d + 1, k, x => if k = e ∨ S.testBit k = false then oth S e d (k + 1) x else oth S e d (k + 1) (10 * x + k)
def isO (S e : Nat) (a b : Nat) : Bool := opp S e 7 0 none == some (a, b)
theorem three : ∀ S : Fin 128, pc S.val = 3 → ∀ e : Fin 7, S.val.testBit e.val = true → ∃ a b : Fin 7, a.val < b.val ∧ isO S.val e.val a.val b.val = true ∧ oth S.val e.val 7 0 0 = 10 * a.val + b.val ∧ S.val.testBit a.val = true ∧ S.val.testBit b.val = true ∧ a ≠ e ∧ b ≠ e ∧
    (isO S.val a.val e.val b.val = true ∨ isO S.val a.val b.val e.val = true) ∧ (isO S.val b.val e.val a.val = true ∨ isO S.val b.val a.val e.val = true) ∧ ∀ k : Fin 7, S.val.testBit k.val = true → k = e ∨ k = a ∨ k = b := by decide +kernel
section star
variable {N : Nat} {σ τ : Wd} {t : Nt}
def oX : Option Nat → Int32
  | none => -1
  | some a => nI a
theorem v_opp4 (r : RN σ t) (i : IN t) {e : Nat} (he : e < 7) {K : Unit → Option (Int64 × Wd)} : ∀ d k n x, k + d = 7 → d < n → (∀ a, x = some a → a < 7) →
    fl_X7_upperOfOppositeAnswer_4 N σ (nI e) K n (oX x) (nI k) = match opp t.ed e d k x with
      | none => K ()
      | some ab => bS (f_X7_upperOfAnswer N σ (nI ab.1) (nI ab.2)) fun v3 s4 => some (v3, s4) := by
  intro d
  induction d with
  | zero =>
    intro k n x hk hn hx
    obtain ⟨n, rfl⟩ : ∃ m, n = m + 1 := ⟨n - 1, by omega⟩
    rw [fl_X7_upperOfOppositeAnswer_4, show k = 7 by omega, lq7, if_pos (nI_le (Nat.le_refl _) (by omega))]
    rfl
  | succ d ih =>
    intro k n x hk hn hx
    obtain ⟨n, rfl⟩ : ∃ m, n = m + 1 := ⟨n - 1, by omega⟩
    rw [fl_X7_upperOfOppositeAnswer_4]
    simp (disch := omega) only [lq7, nI_leI, if_neg, jn_e, nI_1, nI_eq]
    unfold opp
    by_cases q : k = e
    · rw [if_pos q, if_pos (Or.inl q)]
      exact ih (k + 1) n x (by omega) (by omega) hx
    · rw [if_neg q, v_hasEdge r i, bP_s, if_bI0, inS_n (by omega)]
      cases hb : t.ed.testBit k
      · rw [if_pos (Or.inr rfl)]
        exact ih (k + 1) n x (by omega) (by omega) hx
      · have hne : ¬ (k = e ∨ true = false) := fun z => z.elim q (fun w => absurd w (by decide))
        simp only [if_true, if_neg hne]
        cases x with
        | none =>
          rw [if_pos (show oX none = -1 from rfl)]
          exact ih (k + 1) n (some k) (by omega) (by omega) (fun a ha => by simp at ha; omega)
        | some a =>
          have ha := hx a rfl
          rw [if_neg (show ¬ oX (some a) = -1 from fun z => by
            have := nI_m1 (show a < 2 ^ 31 by omega)
            rw [← this]; exact z)]
          rfl
/-- the count of the answer of the two others -/
noncomputable def U (t : Nt) (e : Nat) : Nat := match opp t.ed e 7 0 none with
  | none => 0
  | some ab => cntC t (mn t.ed (2 ^ ab.1)) ab.1 ab.2
theorem opp_lt {S e : Nat} : ∀ d k x, k + d = 7 → (∀ a, x = some a → a < 7) → ∀ ab, opp S e d k x = some ab → ab.1 < 7 ∧ ab.2 < 7
  | 0, k, x, _, _, ab, h => nomatch h
  | d + 1, k, x, hk, hx, ab, h => by
    unfold opp at h
    split at h
    · exact opp_lt d (k + 1) x (by omega) hx ab h
    · cases x with
      | none => exact opp_lt d (k + 1) (some k) (by omega) (fun a ha => by simp at ha; omega) ab h
      | some a =>
        simp at h
        subst h
        exact ⟨hx a rfl, by show k < 7; omega⟩
theorem v_opposite (r : RN σ t) (i : IN t) (hN : 100 ≤ N) {e : Nat} (he : e < 7) : ∃ σ', f_X7_upperOfOppositeAnswer N σ (nI e) = some (lN (U t e), σ') ∧ FrC σ σ' := by
  have key := v_opp4 (N := N) (K := fun _ => some ((0 : Int64), σ)) r i he 7 0 N none (by omega) (by omega) (fun a ha => nomatch ha)
  unfold f_X7_upperOfOppositeAnswer
  unfold U
  cases hq : opp t.ed e 7 0 none with
  | none =>
    rw [hq] at key
    exact ⟨σ, key, FrC.rfl' σ⟩
  | some ab =>
    rw [hq] at key
    obtain ⟨h1, h2⟩ := opp_lt 7 0 none (by omega) (fun a ha => nomatch ha) ab hq
    obtain ⟨s, e1, f1⟩ := v_upperOfAnswer (N := N) r i hN h1 h2
    refine ⟨s, ?_, f1⟩
    refine Eq.trans key ?_
    show bS (f_X7_upperOfAnswer N σ (nI ab.1) (nI ab.2)) _ = _
    rw [e1, bS_s]
theorem U_lt (i : IN t) (e : Nat) : U t e < 2 ^ 62 := by
  unfold U
  split
  · decide
  · exact cnt_lt i _ _ _
theorem v_star23 (i : IN t) (hN : 100 ≤ N) {x y : Int32} {K : Wd → Option ((Nat ⊕ Int64) × Wd)} : ∀ d k n (s : Wd), k + d = 7 → d < n → RN s t →
    ∃ s', FrC s s' ∧ (((∀ e, k ≤ e → e < 7 → t.ed.testBit e = true → U t e ≠ 0) ∧ fl_X7_starred_23 N x y K n (nI k) s = K s') ∨ ((∃ e, e < 7 ∧ t.ed.testBit e = true ∧ U t e = 0) ∧ fl_X7_starred_23 N x y K n (nI k) s = some (.inr 0, s'))) := by
  intro d
  induction d with
  | zero =>
    intro k n s hk hn r
    obtain ⟨n, rfl⟩ : ∃ m, n = m + 1 := ⟨n - 1, by omega⟩
    refine ⟨s, FrC.rfl' s, Or.inl ⟨fun e h1 h2 => by omega, ?_⟩⟩
    rw [fl_X7_starred_23, show k = 7 by omega, lq7, if_pos (nI_le (Nat.le_refl _) (by omega))]
  | succ d ih =>
    intro k n s hk hn r
    obtain ⟨n, rfl⟩ : ∃ m, n = m + 1 := ⟨n - 1, by omega⟩
    rw [fl_X7_starred_23]
    simp (disch := omega) only [lq7, nI_leI, if_neg, jn_e, nI_1]
    rw [v_hasEdge r i, bP_s, if_bI0, inS_n (by omega)]
    cases hb : t.ed.testBit k
    · obtain ⟨s', f1, h⟩ := ih (k + 1) n s (by omega) (by omega) r
      refine ⟨s', f1, ?_⟩
      rcases h with ⟨h1, h2⟩ | h
      · refine Or.inl ⟨fun e e1 e2 e3 => ?_, h2⟩
        rcases Nat.lt_or_ge k e with z | z
        · exact h1 e z e2 e3
        · rw [show e = k by omega, hb] at e3; exact absurd e3 (by decide)
      · exact Or.inr h
    · simp only [if_true]
      obtain ⟨s1, e1, f1⟩ := v_opposite (N := N) r i hN (show k < 7 by omega)
      have hU := U_lt i k
      rw [e1, bS_s]
      by_cases hz : U t k = 0
      · rw [hz, if_pos (show lg_cmp (lN 0) 0 = 0 by decide)]
        exact ⟨s1, f1, Or.inr ⟨⟨k, by omega, hb, hz⟩, rfl⟩⟩
      · rw [if_neg (by rw [lg_cmp_eq, lN_eq0 (by omega)]; exact hz)]
        obtain ⟨s', f2, h⟩ := ih (k + 1) n s1 (by omega) (by omega) (f1.RN r)
        refine ⟨s', f1.trans f2, ?_⟩
        rcases h with ⟨h1, h2⟩ | h
        · refine Or.inl ⟨fun e e1 e2 e3 => ?_, h2⟩
          rcases Nat.lt_or_ge k e with z | z
          · exact h1 e z e2 e3
          · rw [show e = k by omega]; exact hz
        · exact Or.inr h
theorem U_of {e a b : Nat} (h : isO t.ed e a b = true) : U t e = cntC t (mn t.ed (2 ^ a)) a b := by
  unfold isO at h
  rw [beq_iff_eq] at h
  unfold U
  rw [h]
end star
