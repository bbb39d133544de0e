/-! MOVES: the reference's triangle, and what it says is possible. -/
/-- the wires of a triangle, and its nodes -/
def MT (τ : Wd) (t : Nt) (w : Nat) : Prop := (τ.1 12 0 = nI w ∧ τ.1 12 1 = nI (sec t w) ∧ τ.1 12 2 = nI (thd t w)) ∧ τ.1 11 0 = nI (t.f w) ∧ τ.1 11 1 = nI (t.s w) ∧ τ.1 11 2 = nI (t.far (sec t w) (t.f w))
/-- a plan, and room for it -/
def psB (t : Nt) : Option Mv → Bool
  | none => false
  | some M => decide (t.nN + M.nn ≤ 7 ∧ t.nW + M.L.length ≤ 20)
section mposs
variable {N : Nat} {σ τ : Wd} {t : Nt}
theorem m_joins (r : RM τ t) (i : IN t) {k a b : Nat} (hk : k < 20) (ha : a < 7) (hb : b < 7) : f_X8_joins N τ (nI k) (nI a) (nI b) = some (bI (btw t a b k)) := by
  have h20 := i.wr20
  have hf := i.fb k
  have hs := i.sb k
  unfold f_X8_joins
  simp (disch := omega) only [gI, r.wr, v_isIn8, bP_s, jn_e, if_bI0, rI_n, r.f k hk, r.s k hk, nI_eq]
  unfold btw
  cases hw : t.wr.testBit k
  · rw [Bool.and_false]; rfl
  · simp only [if_true]
    rw [Bool.and_true]
    by_cases e : ends t a b k = true
    · rw [e]
      rcases ends_iff.mp e with ⟨z1, z2⟩ | ⟨z1, z2⟩
      · rw [if_pos z1, if_pos z2]; rfl
      · by_cases y1 : t.f k = a
        · rw [if_pos y1]
          by_cases y2 : t.s k = b
          · rw [if_pos y2]; rfl
          · rw [if_neg y2, if_pos z1, if_pos z2]; rfl
        · rw [if_neg y1, if_pos z1, if_pos z2]; rfl
    · have e1 : ¬ (t.f k = a ∧ t.s k = b) := fun z => e (ends_iff.mpr (Or.inl z))
      have e2 : ¬ (t.f k = b ∧ t.s k = a) := fun z => e (ends_iff.mpr (Or.inr z))
      rw [Bool.eq_false_iff.mpr e]
      by_cases y1 : t.f k = a
      · rw [if_pos y1, if_neg (fun z => e1 ⟨y1, z⟩)]
        by_cases y3 : t.f k = b
        · rw [if_pos y3, if_neg (fun z => e2 ⟨y3, z⟩)]; rfl
        · rw [if_neg y3]; rfl
      · rw [if_neg y1]
        by_cases y3 : t.f k = b
        · rw [if_pos y3, if_neg (fun z => e2 ⟨y3, z⟩)]; rfl
        · rw [if_neg y3]; rfl
theorem m_tri117 {ρ : Type} {K : Wd → Option ρ} (i : IN t) {a b c : Nat} {x1 x4 : Int32} (ha : a < 7) (hb : b < 7) (hc : c < 7) (hca : ¬ c = a) (hcb : ¬ c = b) : ∀ k n (s : Wd), k ≤ 20 → k < n → RM s t → s.1 12 2 = oI (fsP (btw t b c) (20 - k) k) 20 →
    ∃ s', fl_X8_findsTriangle_117 N x1 (nI a) (nI b) x4 (nI c) K n (nI k - 1) s = K s' ∧ s'.1 12 2 = oI (fsP (btw t b c) 20 0) 20 ∧ (∀ j, j ≠ 2 → s'.1 12 j = s.1 12 j) ∧ (∀ p, p ≠ 12 → s'.1 p = s.1 p) ∧ s'.2 = s.2 := by
  intro k
  induction k with
  | zero =>
    intro n s hk hn r h
    obtain ⟨n, rfl⟩ : ∃ m, n = m + 1 := ⟨n - 1, by omega⟩
    refine ⟨s, ?_, h, fun j _ => rfl, fun p _ => rfl, rfl⟩
    rw [fl_X8_findsTriangle_117, if_pos (by decide)]
  | succ k ih =>
    intro n s hk hn r h
    obtain ⟨n, rfl⟩ : ∃ m, n = m + 1 := ⟨n - 1, by omega⟩
    have e0 : fsP (btw t b c) (20 - k) k = if btw t b c k = true then k else fsP (btw t b c) (20 - (k + 1)) (k + 1) := by
      rw [show 20 - k = (20 - (k + 1)) + 1 by omega]; rfl
    obtain ⟨s', e1, g1, g2, g3, g4⟩ := ih n (sI s 12 2 (oI (fsP (btw t b c) (20 - k) k) 20)) (by omega) (by omega) (r.same (fun p hp => sI_place (by omega))) (sI_same _ _ _ _)
    refine ⟨s', ?_, g1, fun j hj => by rw [g2 j hj, sI_slot hj], fun p hp => by rw [g3 p hp, sI_place hp], g4⟩
    rw [nI_pred, fl_X8_findsTriangle_117, if_neg (nI_pos (by omega)), if_neg (fun z => hca ((nI_eq (by omega) (by omega)).mp z)), if_neg (fun z => hcb ((nI_eq (by omega) (by omega)).mp z)), m_joins r i (by omega) hb hc, bP_s]
    simp only [jn_e, if_bI0, m1_eq]
    rw [← e1]
    have a2 : ∀ v : Int32, (aI s 12 3 2 v fun s11 => fl_X8_findsTriangle_117 N x1 (nI a) (nI b) x4 (nI c) K n (nI k - 1) s11) = fl_X8_findsTriangle_117 N x1 (nI a) (nI b) x4 (nI c) K n (nI k - 1) (sI s 12 2 v) := fun v => aI_n (j := 2) (by omega) (by omega)
    have r2 : ∀ (K' : Int32 → Option ρ), rI s 12 3 2 K' = K' (s.1 12 2) := fun K' => rI_n (j := 2) (by omega) (by omega)
    simp only [a2, r2, h]
    rw [e0]
    cases hj : btw t b c k
    · rw [if_neg (by decide), if_neg (by decide)]
    · rw [if_pos rfl, if_pos rfl]
      have : oI k 20 = nI k := if_pos (by omega)
      rw [this]
theorem m_tri24 {ρ : Type} {K : Wd → Option ρ} (i : IN t) (hN : 100 ≤ N) {w : Nat} (hw : w < 20) (hne : ¬ t.f w = t.s w) : ∀ d k n (s : Wd), k + d = 20 → d + 1 < n → RM s t → s.1 12 1 = -1 →
    ∃ s', fl_X8_findsTriangle_24 N (nI w) (nI (t.f w)) (nI (t.s w)) K n (nI k) s = K s' ∧ s'.1 12 1 = oI (fsP (s2B t (t.f w) (t.s w)) d k) 20 ∧ (fsP (s2B t (t.f w) (t.s w)) d k < 20 → s'.1 12 2 = oI (fsP (btw t (t.s w) (t.far (fsP (s2B t (t.f w) (t.s w)) d k) (t.f w))) 20 0) 20 ∧ s'.1 11 2 = nI (t.far (fsP (s2B t (t.f w) (t.s w)) d k) (t.f w))) ∧ FrQ s s' := by
  have h20 := i.wr20
  have ha := i.fb w
  have hb := i.sb w
  have a1 : ∀ (s : Wd) (q : Nat) (v : Int32) (K' : Wd → Option ρ), aI s q 3 1 v K' = K' (sI s q 1 v) := fun s q v K' => aI_n (j := 1) (by omega) (by omega)
  have a2 : ∀ (s : Wd) (q : Nat) (v : Int32) (K' : Wd → Option ρ), aI s q 3 2 v K' = K' (sI s q 2 v) := fun s q v K' => aI_n (j := 2) (by omega) (by omega)
  have r1 : ∀ (s : Wd) (q : Nat) (K' : Int32 → Option ρ), rI s q 3 1 K' = K' (s.1 q 1) := fun s q K' => rI_n (j := 1) (by omega) (by omega)
  have r2 : ∀ (s : Wd) (q : Nat) (K' : Int32 → Option ρ), rI s q 3 2 K' = K' (s.1 q 2) := fun s q K' => rI_n (j := 2) (by omega) (by omega)
  intro d
  induction d with
  | zero =>
    intro k n s hk hn r h
    obtain ⟨n, rfl⟩ : ∃ m, n = m + 1 := ⟨n - 1, by omega⟩
    have hk : k = 20 := by omega
    subst hk
    refine ⟨s, ?_, h, fun z => absurd z (by show ¬ 20 < 20; omega), FrQ.rfl' s⟩
    rw [fl_X8_findsTriangle_24, lq20, if_pos (nI_le (Nat.le_refl _) (by omega))]
  | succ d ih =>
    intro k n s hk hn r h
    obtain ⟨n, rfl⟩ : ∃ m, n = m + 1 := ⟨n - 1, by omega⟩
    have hf := i.fb k
    have hs := i.sb k
    have hfar := far_lt i k (t.f w)
    have e0 : fsP (s2B t (t.f w) (t.s w)) (d + 1) k = if s2B t (t.f w) (t.s w) k = true then k else fsP (s2B t (t.f w) (t.s w)) d (k + 1) := rfl
    have hm1 : (oI (fsP (btw t (t.s w) (t.far k (t.f w))) (20 - 20) 20) 20 : Int32) = -1 := rfl
    -- behind the search for the third wire
    have no : ∀ s1 : Wd, s2B t (t.f w) (t.s w) k = false → RM s1 t → s1.1 12 1 = -1 → FrQ s s1 → ∃ s', fl_X8_findsTriangle_24 N (nI w) (nI (t.f w)) (nI (t.s w)) K n (nI (k + 1)) s1 = K s' ∧ s'.1 12 1 = oI (fsP (s2B t (t.f w) (t.s w)) (d + 1) k) 20 ∧ (fsP (s2B t (t.f w) (t.s w)) (d + 1) k < 20 → s'.1 12 2 = oI (fsP (btw t (t.s w) (t.far (fsP (s2B t (t.f w) (t.s w)) (d + 1) k) (t.f w))) 20 0) 20 ∧ s'.1 11 2 = nI (t.far (fsP (s2B t (t.f w) (t.s w)) (d + 1) k) (t.f w))) ∧ FrQ s s' := fun s1 hno rs h1 fr => by
      rw [e0, hno, if_neg (by decide)]
      obtain ⟨s', e1, g1, g2, g3⟩ := ih (k + 1) n s1 (by omega) (by omega) rs h1
      exact ⟨s', e1, g1, g2, fr.trans g3⟩
    have fail : ∀ c : Nat, c < 7 → (c = t.f w ∨ c = t.s w) → s2B t (t.f w) (t.s w) k = false → ∃ s', (fl_X8_findsTriangle_117 N (nI w) (nI (t.f w)) (nI (t.s w)) (nI k) (nI c) (fun s13 => if s13.1 12 2 = -1 then fl_X8_findsTriangle_24 N (nI w) (nI (t.f w)) (nI (t.s w)) K n (nI (k + 1)) s13 else fl_X8_findsTriangle_24 N (nI w) (nI (t.f w)) (nI (t.s w)) K n (nI (k + 1)) (sI (sI s13 12 1 (nI k)) 11 2 (nI c))) N 19 (sI s 12 2 (-1))) = K s' ∧ s'.1 12 1 = oI (fsP (s2B t (t.f w) (t.s w)) (d + 1) k) 20 ∧ (fsP (s2B t (t.f w) (t.s w)) (d + 1) k < 20 → s'.1 12 2 = oI (fsP (btw t (t.s w) (t.far (fsP (s2B t (t.f w) (t.s w)) (d + 1) k) (t.f w))) 20 0) 20 ∧ s'.1 11 2 = nI (t.far (fsP (s2B t (t.f w) (t.s w)) (d + 1) k) (t.f w))) ∧ FrQ s s' := fun c hc hcc hno => by
      obtain ⟨m, hm⟩ : ∃ m, N = m + 1 := ⟨N - 1, by omega⟩
      have key : fl_X8_findsTriangle_117 N (nI w) (nI (t.f w)) (nI (t.s w)) (nI k) (nI c) (fun s13 => if s13.1 12 2 = -1 then fl_X8_findsTriangle_24 N (nI w) (nI (t.f w)) (nI (t.s w)) K n (nI (k + 1)) s13 else fl_X8_findsTriangle_24 N (nI w) (nI (t.f w)) (nI (t.s w)) K n (nI (k + 1)) (sI (sI s13 12 1 (nI k)) 11 2 (nI c))) N 19 (sI s 12 2 (-1)) = fl_X8_findsTriangle_24 N (nI w) (nI (t.f w)) (nI (t.s w)) K n (nI (k + 1)) (sI s 12 2 (-1)) := by
        have gen : ∀ (y : Nat) (K' : Wd → Option ρ) (u : Wd), fl_X8_findsTriangle_117 y (nI w) (nI (t.f w)) (nI (t.s w)) (nI k) (nI c) K' (m + 1) 19 u = K' u := fun y K' u => by
          rw [fl_X8_findsTriangle_117, if_neg (by decide)]
          rcases hcc with q | q
          · rw [if_pos (by rw [q])]
          · by_cases z : nI c = nI (t.f w)
            · rw [if_pos z]
            · rw [if_neg z, if_pos (by rw [q])]
        have g := gen N (fun s13 => if s13.1 12 2 = -1 then fl_X8_findsTriangle_24 N (nI w) (nI (t.f w)) (nI (t.s w)) K n (nI (k + 1)) s13 else fl_X8_findsTriangle_24 N (nI w) (nI (t.f w)) (nI (t.s w)) K n (nI (k + 1)) (sI (sI s13 12 1 (nI k)) 11 2 (nI c))) (sI s 12 2 (-1))
        rw [← hm] at g
        rw [g, sI_same, if_pos rfl]
      rw [key]
      exact no _ hno (r.same (fun p hp => sI_place (by omega))) (by rw [sI_slot (by omega)]; exact h) (FrQ.put (Or.inr rfl))
    have find : t.wr.testBit k = true → (t.f k = t.f w ∨ t.s k = t.f w) → ∃ s', (fl_X8_findsTriangle_117 N (nI w) (nI (t.f w)) (nI (t.s w)) (nI k) (nI (t.far k (t.f w))) (fun s13 => if s13.1 12 2 = -1 then fl_X8_findsTriangle_24 N (nI w) (nI (t.f w)) (nI (t.s w)) K n (nI (k + 1)) s13 else fl_X8_findsTriangle_24 N (nI w) (nI (t.f w)) (nI (t.s w)) K n (nI (k + 1)) (sI (sI s13 12 1 (nI k)) 11 2 (nI (t.far k (t.f w))))) N 19 (sI s 12 2 (-1))) = K s' ∧ s'.1 12 1 = oI (fsP (s2B t (t.f w) (t.s w)) (d + 1) k) 20 ∧ (fsP (s2B t (t.f w) (t.s w)) (d + 1) k < 20 → s'.1 12 2 = oI (fsP (btw t (t.s w) (t.far (fsP (s2B t (t.f w) (t.s w)) (d + 1) k) (t.f w))) 20 0) 20 ∧ s'.1 11 2 = nI (t.far (fsP (s2B t (t.f w) (t.s w)) (d + 1) k) (t.f w))) ∧ FrQ s s' := fun hwr hat => by
      by_cases q4 : t.far k (t.f w) = t.f w
      · exact fail _ hfar (Or.inl q4) (by unfold s2B; rw [beq_iff_eq.mpr q4]; simp)
      · by_cases q5 : t.far k (t.f w) = t.s w
        · exact fail _ hfar (Or.inr q5) (by unfold s2B; rw [beq_iff_eq.mpr q5]; simp)
        · obtain ⟨s1, e1, g1, g2, g3, g4⟩ := m_tri117 (N := N) (K := fun s13 => if s13.1 12 2 = -1 then fl_X8_findsTriangle_24 N (nI w) (nI (t.f w)) (nI (t.s w)) K n (nI (k + 1)) s13 else fl_X8_findsTriangle_24 N (nI w) (nI (t.f w)) (nI (t.s w)) K n (nI (k + 1)) (sI (sI s13 12 1 (nI k)) 11 2 (nI (t.far k (t.f w))))) (x1 := nI w) (x4 := nI k) i ha hb hfar q4 q5 20 N (sI s 12 2 (-1)) (Nat.le_refl _) (by omega) (r.same (fun p hp => sI_place (by omega))) (sI_same _ _ _ _)
          have h19 : nI 20 - 1 = (19 : Int32) := rfl
          rw [h19] at e1
          have r1' : RM s1 t := r.same (fun p hp => by rw [g3 p (by omega), sI_place (by omega)])
          have fr1 : FrQ s s1 := ⟨g4, fun p _ hp => by rw [g3 p hp, sI_place hp]⟩
          have h11 : s1.1 12 1 = -1 := by rw [g2 1 (by omega), sI_slot (by omega)]; exact h
          rw [e1]
          cases hj : jnd t (t.s w) (t.far k (t.f w))
          · have hn : s1.1 12 2 = -1 := by
              rw [g1]
              exact if_neg (fun z => by rw [jnd_fsP.mpr z] at hj; exact absurd hj (by decide))
            rw [if_pos hn]
            exact no s1 (by unfold s2B; rw [hj]; simp) r1' h11 fr1
          · have hl := jnd_fsP.mp hj
            have hy : s1.1 12 2 = nI (fsP (btw t (t.s w) (t.far k (t.f w))) 20 0) := by rw [g1]; exact if_pos hl
            have hs2 : s2B t (t.f w) (t.s w) k = true := by
              unfold s2B
              rw [hj, hwr, beq_false_of_ne hne, beq_false_of_ne q4, beq_false_of_ne q5]
              rcases hat with z | z
              · rw [beq_iff_eq.mpr z]; rfl
              · rw [beq_iff_eq.mpr z]; simp
            rw [hy, if_neg (by rw [nI_m1 (by omega)]; exact id), e0, hs2, if_pos rfl]
            refine ⟨sI (sI s1 12 1 (nI k)) 11 2 (nI (t.far k (t.f w))), ?_, ?_, fun _ => ⟨?_, sI_same _ _ _ _⟩, fr1.trans ((FrQ.put (Or.inr rfl)).trans (FrQ.put (Or.inl rfl)))⟩
            · obtain ⟨n, rfl⟩ : ∃ m, n = m + 1 := ⟨n - 1, by omega⟩
              rw [fl_X8_findsTriangle_24]
              by_cases z : (20 : Int32) ≤ nI (k + 1)
              · rw [if_pos z]
              · rw [if_neg z]
                by_cases z2 : nI (t.f w) = nI (t.s w)
                · rw [if_pos z2]
                · rw [if_neg z2, r1, sI_place (by omega), sI_same, if_neg (by rw [nI_m1 (by omega)]; exact id)]
            · rw [sI_place (by omega), sI_same]
              exact (if_pos (by omega)).symm
            · rw [sI_place (by omega), sI_slot (by omega)]; exact g1
    rw [fl_X8_findsTriangle_24, lq20, if_neg (nI_ge (by omega) (by omega)), if_neg (fun z => hne ((nI_eq (by omega) (by omega)).mp z)), r1, h, if_pos rfl]
    simp only [jn_e, a1, a2, r2, nI_1, gI, r.wr]
    rw [v_isIn8 (by omega) (by omega), bP_s, if_bI0]
    cases hwr : t.wr.testBit k
    · exact fail _ ha (Or.inl rfl) (by unfold s2B; rw [hwr]; simp)
    · simp only [if_true]
      by_cases hkw : k = w
      · rw [if_pos (by rw [hkw])]
        exact fail _ ha (Or.inl rfl) (by
          unfold s2B Nt.far
          rw [hkw, if_pos rfl]
          simp)
      · rw [if_neg (fun z => hkw ((nI_eq (by omega) (by omega)).mp z)), rI_n (by omega) (by omega), r.f k (by omega), m_otherEnd r i (by omega) ha, bP_s, rI_n (by omega) (by omega), r.s k (by omega)]
        by_cases z1 : t.f k = t.f w
        · rw [if_pos (by rw [z1])]
          exact find hwr (Or.inl z1)
        · rw [if_neg (fun z => z1 ((nI_eq (by omega) (by omega)).mp z))]
          by_cases z2 : t.s k = t.f w
          · rw [if_pos (by rw [z2])]
            exact find hwr (Or.inr z2)
          · rw [if_neg (fun z => z2 ((nI_eq (by omega) (by omega)).mp z))]
            exact fail _ ha (Or.inl rfl) (by
              unfold s2B
              rw [beq_false_of_ne z1, beq_false_of_ne z2]; simp)
theorem m_findsTriangle (r : RM τ t) (i : IN t) (hN : 100 ≤ N) {w : Nat} (hw : w < 20) : ∃ τ', f_X8_findsTriangle N τ (nI w) = some (bI (decide (sec t w < 20)), τ') ∧ FrQ τ τ' ∧ (sec t w < 20 → MT τ' t w) := by
  have ha := i.fb w
  have hb := i.sb w
  have a0 : ∀ (s : Wd) (q : Nat) (v : Int32) (K' : Wd → Option (Int32 × Wd)), aI s q 3 0 v K' = K' (sI s q 0 v) := fun s q v K' => aI_n (j := 0) (by omega) (by omega)
  have a1 : ∀ (s : Wd) (q : Nat) (v : Int32) (K' : Wd → Option (Int32 × Wd)), aI s q 3 1 v K' = K' (sI s q 1 v) := fun s q v K' => aI_n (j := 1) (by omega) (by omega)
  have r1 : ∀ (s : Wd) (q : Nat) (K' : Int32 → Option (Int32 × Wd)), rI s q 3 1 K' = K' (s.1 q 1) := fun s q K' => rI_n (j := 1) (by omega) (by omega)
  unfold f_X8_findsTriangle
  simp (disch := omega) only [rI_n, r.f w hw, r.s w hw, a1]
  have fin : ∀ s' : Wd, s'.1 12 1 = oI (sec t w) 20 → (sec t w < 20 → s'.1 12 2 = nI (thd t w) ∧ s'.1 11 2 = nI (t.far (sec t w) (t.f w))) → FrQ τ s' → ∃ τ', (aI s' 12 3 0 (nI w) fun s22 => aI s22 11 3 0 (nI (t.f w)) fun s23 => aI s23 11 3 1 (nI (t.s w)) fun s24 => rI s24 12 3 1 fun v25 => if v25 = (-1) then some (0, s24) else some (1, s24)) = some (bI (decide (sec t w < 20)), τ') ∧ FrQ τ τ' ∧ (sec t w < 20 → MT τ' t w) := fun s' h1 h2 fr => by
    simp only [a0, a1, r1]
    refine ⟨sI (sI (sI s' 12 0 (nI w)) 11 0 (nI (t.f w))) 11 1 (nI (t.s w)), ?_, fr.trans ((FrQ.put (Or.inr rfl)).trans ((FrQ.put (Or.inl rfl)).trans (FrQ.put (Or.inl rfl)))), fun hs => ?_⟩
    · rw [sI_place (by omega), sI_place (by omega), sI_slot (by omega), h1]
      unfold oI
      by_cases hs : sec t w < 20
      · rw [if_pos hs, if_neg (by rw [nI_m1 (by omega)]; exact id), decide_eq_true hs]; rfl
      · rw [if_neg hs, if_pos rfl, decide_eq_false hs]; rfl
    · obtain ⟨b1, b2⟩ := h2 hs
      refine ⟨⟨?_, ?_, ?_⟩, ?_, ?_, ?_⟩
      · simp (disch := omega) only [sI_place, sI_same]
      · simp (disch := omega) only [sI_place, sI_slot]
        rw [h1]; exact if_pos hs
      · simp (disch := omega) only [sI_place, sI_slot]; exact b1
      · simp (disch := omega) only [sI_slot, sI_same]
      · exact sI_same _ _ _ _
      · simp (disch := omega) only [sI_place, sI_slot]; exact b2
  by_cases hne : t.f w = t.s w
  · have hsec : sec t w = 20 := by
      unfold sec
      obtain ⟨q1, q2, q3, q4⟩ := fsP_spec (s2B t (t.f w) (t.s w)) 20 0
      refine Classical.byContradiction fun q => ?_
      have := q4 (by omega)
      unfold s2B at this
      rw [beq_iff_eq.mpr hne] at this
      exact absurd this (by simp)
    obtain ⟨m, rfl⟩ : ∃ m, N = m + 1 := ⟨N - 1, by omega⟩
    rw [fl_X8_findsTriangle_24, if_neg (by decide), if_pos (by rw [hne])]
    exact fin _ (by rw [sI_same, hsec]; rfl) (fun z => by omega) (FrQ.put (Or.inr rfl))
  · obtain ⟨s', e1, g1, g2, g3⟩ := m_tri24 (N := N) (K := fun s21 => aI s21 12 3 0 (nI w) fun s22 => aI s22 11 3 0 (nI (t.f w)) fun s23 => aI s23 11 3 1 (nI (t.s w)) fun s24 => rI s24 12 3 1 fun v25 => if v25 = (-1) then some ((0 : Int32), s24) else some (1, s24)) i hN hw hne 20 0 N (sI τ 12 1 (-1)) (by omega) (by omega) (r.same (fun p hp => sI_place (by omega))) (sI_same _ _ _ _)
    obtain ⟨τ', e2, k1, k2⟩ := fin s' g1 (fun hs => by
      obtain ⟨z1, z2⟩ := g2 hs
      obtain ⟨-, -, -, -, -, y6, -, -⟩ := sec_in hs
      exact ⟨z1.trans (if_pos y6), z2⟩) ((FrQ.put (Or.inr rfl)).trans g3)
    exact ⟨τ', e1.trans e2, k1, k2⟩
theorem psB_some {o : Option Mv} (h : psB t o = true) : ∃ M, o = some M ∧ t.nN + M.nn ≤ 7 ∧ t.nW + M.L.length ≤ 20 := by
  cases o with
  | none => exact absurd h Bool.false_ne_true
  | some M => exact ⟨M, rfl, of_decide_eq_true h⟩
theorem m_poss0 (r : RM τ t) (i : IN t) {w : Nat} (hw : w < 20) : f_X8_isPossible N τ 0 (nI w) = some (bI (psB t (pl0 t w)), τ) := by
  have ha := i.fb w
  have hb := i.sb w
  have h1 := i.nN
  have h2 := i.nW
  unfold f_X8_isPossible pl0
  rw [if_pos rfl]
  simp (disch := omega) only [rI_n, r.f w hw, r.s w hw, nI_eq]
  by_cases q : t.f w = t.s w
  · rw [if_pos q, beq_iff_eq.mpr q, if_pos rfl]
    have : psB t (some (Mv.mk 0 (2 ^ w) none 0 [])) = true := decide_eq_true ⟨h1, h2⟩
    rw [this]; rfl
  · rw [if_neg q, beq_false_of_ne q]; rfl
theorem m_poss1 (r : RM τ t) (i : IN t) (hN : 100 ≤ N) {w : Nat} (hw : w < 20) (hwr : t.wr.testBit w = true) : f_X8_isPossible N τ 1 (nI w) = some (bI (psB t (pl1 t w)), τ) := by
  have h1 := i.nN
  have h2 := i.nW
  unfold f_X8_isPossible pl1
  rw [if_neg (by decide), if_pos rfl, m_alike r i hN hw]
  simp only [bP_s]
  cases hr : t.f w == t.s w
  · simp only [Bool.false_eq_true, if_false]
    unfold oI
    obtain ⟨q1, q2, q3, q4⟩ := fsP_spec (fun x => btw t (t.f w) (t.s w) x && !(x == w)) 20 0
    by_cases ho : othW t w < 20
    · have hb := q4 ho
      rw [Bool.and_eq_true] at hb
      have hbw := hb.1
      unfold btw at hbw
      rw [Bool.and_eq_true] at hbw
      have c1 := i.cb _ hwr
      have c2 : 1 ≤ t.c (othW t w) ∧ t.c (othW t w) ≤ 60 := i.cb _ hbw.2
      rw [if_pos ho, if_neg (by rw [nI_m1 (by omega)]; exact id), decide_eq_true ho]
      simp (disch := omega) only [rI_n, r.c w hw, r.c (othW t w) ho, nI_add]
      by_cases h60 : t.c w + t.c (othW t w) ≤ 60
      · have : psB t (some (Mv.mk 0 (2 ^ othW t w) (some (w, t.c w + t.c (othW t w))) 0 [])) = true := decide_eq_true ⟨h1, h2⟩
        rw [decide_eq_true h60, if_neg (show ¬ (60 : Int32) < nI (t.c w + t.c (othW t w)) from nI_nlt (a := 60) h60 (by omega))]
        simp only [Bool.not_false, Bool.and_self, if_true]
        rw [this]; rfl
      · rw [decide_eq_false h60, if_pos (show (60 : Int32) < nI (t.c w + t.c (othW t w)) from nI_lt (a := 60) (by omega) (by omega))]
        rfl
    · rw [if_neg ho, if_pos rfl, decide_eq_false ho]; rfl
  · simp only [if_true]; rfl
theorem m_poss2 (r : RM τ t) (i : IN t) (hN : 100 ≤ N) {v : Nat} (hv : v < 7) : ∃ τ', f_X8_isPossible N τ 2 (nI v) = some (bI (psB t (pl2 t v)), τ') ∧ FrQ τ τ' ∧ (inn t v 1 = true → MB τ' t v 1) := by
  have h1 := i.nN
  have h2 := i.nW
  obtain ⟨s1, e1, g1, g2⟩ := m_isInner (N := N) r i hN hv (d := 1) (by omega) (by omega)
  have e1' : f_X8_isInner N τ (nI v) 1 = some (bI (inn t v 1), s1) := e1
  refine ⟨s1, ?_, g1, g2⟩
  unfold f_X8_isPossible pl2
  rw [if_neg (by decide), if_neg (by decide), if_pos rfl, e1', bS_s, zb_bI]
  cases inn t v 1
  · rfl
  · have : psB t (some (Mv.mk (2 ^ v) (WA t v) none 0 [])) = true := decide_eq_true ⟨h1, h2⟩
    rw [if_pos rfl, this]
theorem m_poss3 (r : RM τ t) (i : IN t) (hN : 100 ≤ N) {v : Nat} (hv : v < 7) : ∃ τ', f_X8_isPossible N τ 3 (nI v) = some (bI (psB t (pl3 t v)), τ') ∧ FrQ τ τ' ∧ (psB t (pl3 t v) = true → MB τ' t v 2) := by
  have h1 := i.nN
  have h2 := i.nW
  have r0 : ∀ (s : Wd) (K' : Int32 → Option (Int32 × Wd)), rI s 12 3 0 K' = K' (s.1 12 0) := fun s K' => rI_n (j := 0) (by omega) (by omega)
  have r1 : ∀ (s : Wd) (K' : Int32 → Option (Int32 × Wd)), rI s 12 3 1 K' = K' (s.1 12 1) := fun s K' => rI_n (j := 1) (by omega) (by omega)
  have main : ∃ τ', f_X8_canSeries N τ (nI v) = some (bI (psB t (pl3 t v)), τ') ∧ FrQ τ τ' ∧ (psB t (pl3 t v) = true → MB τ' t v 2) := by
    unfold f_X8_canSeries pl3
    simp only [gI, r.nW]
    by_cases q : t.nW = 20
    · rw [if_pos (by rw [q]; rfl)]
      have : psB t (if (inn t v 2 && whl (lc t v 0 * lc t v 1) (lc t v 0 + lc t v 1)) = true then some (Mv.mk (2 ^ v) (WA t v) none 0 [(fa t v 0, fa t v 1, lc t v 0 * lc t v 1 / (lc t v 0 + lc t v 1))]) else none) = false := by
        split
        · exact decide_eq_false (fun z => by have : t.nW + 1 ≤ 20 := z.2; omega)
        · rfl
      rw [this]
      exact ⟨τ, rfl, FrQ.rfl' τ, fun z => absurd z Bool.false_ne_true⟩
    · rw [if_neg (show ¬ nI t.nW = 20 from fun z => q ((nI_eq (b := 20) (by omega) (by omega)).mp z))]
      obtain ⟨s1, e1, g1, g2⟩ := m_isInner (N := N) r i hN hv (d := 2) (by omega) (by omega)
      have e1' : f_X8_isInner N τ (nI v) 2 = some (bI (inn t v 2), s1) := e1
      rw [e1', bS_s, if_bI0]
      cases hi : inn t v 2
      · exact ⟨s1, rfl, g1, fun z => absurd z Bool.false_ne_true⟩
      · have hmb := g2 hi
        have hl := inn_len hi
        have rs := g1.RM r
        have c0 := lc_b i (v := v) (j := 0) (by omega)
        have c1 := lc_b i (v := v) (j := 1) (by omega)
        have m01 := mul60 c0.2 c1.2
        obtain ⟨a0, -, -⟩ := la_in (t := t) (v := v) (j := 0) (by omega)
        obtain ⟨a1, -, -⟩ := la_in (t := t) (v := v) (j := 1) (by omega)
        have k0 : t.c ((la t v).getD 0 0) = lc t v 0 := rfl
        have k1 : t.c ((la t v).getD 1 0) = lc t v 1 := rfl
        rw [if_pos rfl, Bool.true_and]
        simp (disch := omega) only [r0, r1, (hmb 0 (by omega)).1, (hmb 1 (by omega)).1, rI_n, rs.c _ a0, rs.c _ a1, k0, k1, pk_mul, nI_add]
        rw [m_isWhole (by omega) (by omega) (by omega), bP_s, zb_bI]
        refine ⟨s1, ?_, g1, fun _ => hmb⟩
        cases whl (lc t v 0 * lc t v 1) (lc t v 0 + lc t v 1)
        · rfl
        · have : psB t (some (Mv.mk (2 ^ v) (WA t v) none 0 [(fa t v 0, fa t v 1, lc t v 0 * lc t v 1 / (lc t v 0 + lc t v 1))])) = true := decide_eq_true ⟨h1, by show t.nW + 1 ≤ 20; omega⟩
          rw [if_pos rfl, this]
  obtain ⟨τ', e, g1, g2⟩ := main
  refine ⟨τ', ?_, g1, g2⟩
  unfold f_X8_isPossible
  rw [if_neg (by decide), if_neg (by decide), if_neg (by decide), if_pos rfl, e, bS_s, zb_bI]
theorem m_poss4 (r : RM τ t) (i : IN t) (hN : 100 ≤ N) {v : Nat} (hv : v < 7) : ∃ τ', f_X8_isPossible N τ 4 (nI v) = some (bI (psB t (pl4 t v)), τ') ∧ FrQ τ τ' ∧ (psB t (pl4 t v) = true → MB τ' t v 3) := by
  have h1 := i.nN
  have h2 := i.nW
  have r0 : ∀ (s : Wd) (K' : Int32 → Option (Int32 × Wd)), rI s 12 3 0 K' = K' (s.1 12 0) := fun s K' => rI_n (j := 0) (by omega) (by omega)
  have r1 : ∀ (s : Wd) (K' : Int32 → Option (Int32 × Wd)), rI s 12 3 1 K' = K' (s.1 12 1) := fun s K' => rI_n (j := 1) (by omega) (by omega)
  have r2 : ∀ (s : Wd) (K' : Int32 → Option (Int32 × Wd)), rI s 12 3 2 K' = K' (s.1 12 2) := fun s K' => rI_n (j := 2) (by omega) (by omega)
  have main : ∃ τ', f_X8_canTriangle N τ (nI v) = some (bI (psB t (pl4 t v)), τ') ∧ FrQ τ τ' ∧ (psB t (pl4 t v) = true → MB τ' t v 3) := by
    unfold f_X8_canTriangle pl4
    simp only [gI, r.nW, lq3, nI_add]
    by_cases q : t.nW + 3 ≤ 20
    · rw [if_neg (show ¬ (20 : Int32) < nI (t.nW + 3) from nI_nlt (a := 20) q (by omega))]
      obtain ⟨s1, e1, g1, g2⟩ := m_isInner (N := N) r i hN hv (d := 3) (by omega) (by omega)
      rw [e1, bS_s, if_bI0]
      cases hi : inn t v 3
      · exact ⟨s1, rfl, g1, fun z => absurd z Bool.false_ne_true⟩
      · have hmb := g2 hi
        have hl := inn_len hi
        have rs := g1.RM r
        have c0 := lc_b i (v := v) (j := 0) (by omega)
        have c1 := lc_b i (v := v) (j := 1) (by omega)
        have c2 := lc_b i (v := v) (j := 2) (by omega)
        have m01 := mul60 c0.2 c1.2
        have m02 := mul60 c0.2 c2.2
        have m12 := mul60 c1.2 c2.2
        obtain ⟨a0, -, -⟩ := la_in (t := t) (v := v) (j := 0) (by omega)
        obtain ⟨a1, -, -⟩ := la_in (t := t) (v := v) (j := 1) (by omega)
        obtain ⟨a2, -, -⟩ := la_in (t := t) (v := v) (j := 2) (by omega)
        have k0 : t.c ((la t v).getD 0 0) = lc t v 0 := rfl
        have k1 : t.c ((la t v).getD 1 0) = lc t v 1 := rfl
        have k2 : t.c ((la t v).getD 2 0) = lc t v 2 := rfl
        have hsm : lc t v 0 + lc t v 1 + lc t v 2 = sm3 t v := rfl
        rw [if_pos rfl, Bool.true_and]
        simp (disch := omega) only [r0, r1, r2, (hmb 0 (by omega)).1, (hmb 1 (by omega)).1, (hmb 2 (by omega)).1, rI_n, rs.c _ a0, rs.c _ a1, rs.c _ a2, k0, k1, k2, lI, pk_mul, nI_add, hsm]
        rw [m_isWhole (by omega) (by omega) (by omega), bP_s, if_bI0, m_isWhole (by omega) (by omega) (by omega), bP_s, if_bI0, m_isWhole (by omega) (by omega) (by omega), bP_s, if_bI0]
        refine ⟨s1, ?_, g1, fun _ => hmb⟩
        have : psB t (some (Mv.mk (2 ^ v) (WA t v) none 0 [(fa t v 0, fa t v 1, lc t v 0 * lc t v 1 / sm3 t v), (fa t v 0, fa t v 2, lc t v 0 * lc t v 2 / sm3 t v), (fa t v 1, fa t v 2, lc t v 1 * lc t v 2 / sm3 t v)])) = true := decide_eq_true ⟨h1, q⟩
        cases whl (lc t v 0 * lc t v 1) (sm3 t v)
        · rfl
        · cases whl (lc t v 0 * lc t v 2) (sm3 t v)
          · rfl
          · cases whl (lc t v 1 * lc t v 2) (sm3 t v)
            · rfl
            · simp only [Bool.and_self, if_true]
              rw [this]; rfl
    · rw [if_pos (show (20 : Int32) < nI (t.nW + 3) from nI_lt (a := 20) (by omega) (by omega))]
      have : psB t (if (inn t v 3 && (whl (lc t v 0 * lc t v 1) (sm3 t v) && (whl (lc t v 0 * lc t v 2) (sm3 t v) && whl (lc t v 1 * lc t v 2) (sm3 t v)))) = true then some (Mv.mk (2 ^ v) (WA t v) none 0 [(fa t v 0, fa t v 1, lc t v 0 * lc t v 1 / sm3 t v), (fa t v 0, fa t v 2, lc t v 0 * lc t v 2 / sm3 t v), (fa t v 1, fa t v 2, lc t v 1 * lc t v 2 / sm3 t v)]) else none) = false := by
        split
        · exact decide_eq_false (fun z => q z.2)
        · rfl
      rw [this]
      exact ⟨τ, rfl, FrQ.rfl' τ, fun z => absurd z Bool.false_ne_true⟩
  obtain ⟨τ', e, g1, g2⟩ := main
  refine ⟨τ', ?_, g1, g2⟩
  unfold f_X8_isPossible
  rw [if_neg (by decide), if_neg (by decide), if_neg (by decide), if_neg (by decide), if_pos rfl, e, bS_s, zb_bI]
theorem m_products (r : RM τ t) (i : IN t) {w : Nat} (hw : w < 20) (hs : sec t w < 20) (h : MT τ t w) : f_X8_products N τ = some (nI (prs t w)) := by
  obtain ⟨-, -, -, -, -, a6, -, -⟩ := sec_in hs
  have r0 : ∀ (s : Wd) (K' : Int32 → Option Int32), rI s 12 3 0 K' = K' (s.1 12 0) := fun s K' => rI_n (j := 0) (by omega) (by omega)
  have r1 : ∀ (s : Wd) (K' : Int32 → Option Int32), rI s 12 3 1 K' = K' (s.1 12 1) := fun s K' => rI_n (j := 1) (by omega) (by omega)
  have r2 : ∀ (s : Wd) (K' : Int32 → Option Int32), rI s 12 3 2 K' = K' (s.1 12 2) := fun s K' => rI_n (j := 2) (by omega) (by omega)
  unfold f_X8_products
  simp (disch := omega) only [r0, r1, r2, h.1.1, h.1.2.1, h.1.2.2, rI_n, r.c w hw, r.c _ hs, r.c _ a6, pk_mul, nI_add]
  rfl
theorem m_poss5 (r : RM τ t) (i : IN t) (hN : 100 ≤ N) {w : Nat} (hw : w < 20) (hwr : t.wr.testBit w = true) : ∃ τ', f_X8_isPossible N τ 5 (nI w) = some (bI (psB t (pl5 t w)), τ') ∧ FrQ τ τ' ∧ (psB t (pl5 t w) = true → MT τ' t w) := by
  have h1 := i.nN
  have h2 := i.nW
  have r0 : ∀ (s : Wd) (K' : Int32 → Option (Int32 × Wd)), rI s 12 3 0 K' = K' (s.1 12 0) := fun s K' => rI_n (j := 0) (by omega) (by omega)
  have r1 : ∀ (s : Wd) (K' : Int32 → Option (Int32 × Wd)), rI s 12 3 1 K' = K' (s.1 12 1) := fun s K' => rI_n (j := 1) (by omega) (by omega)
  have r2 : ∀ (s : Wd) (K' : Int32 → Option (Int32 × Wd)), rI s 12 3 2 K' = K' (s.1 12 2) := fun s K' => rI_n (j := 2) (by omega) (by omega)
  have none' : ¬ (t.nN + 1 ≤ 7 ∧ t.nW + 3 ≤ 20) → psB t (pl5 t w) = false := fun q => by
    unfold pl5
    split
    · exact decide_eq_false q
    · rfl
  have main : ∃ τ', f_X8_canStar N τ (nI w) = some (bI (psB t (pl5 t w)), τ') ∧ FrQ τ τ' ∧ (psB t (pl5 t w) = true → MT τ' t w) := by
    unfold f_X8_canStar
    simp only [gI, r.nW, r.nN]
    rw [show nI t.nW + 3 = nI (t.nW + 3) from nI_add _ 3]
    by_cases q : t.nW + 3 ≤ 20
    · rw [if_neg (show ¬ (20 : Int32) < nI (t.nW + 3) from nI_nlt (a := 20) q (by omega))]
      by_cases q2 : t.nN = 7
      · rw [if_pos (by rw [q2]; rfl), none' (fun z => by omega)]
        exact ⟨τ, rfl, FrQ.rfl' τ, fun z => absurd z Bool.false_ne_true⟩
      · rw [if_neg (show ¬ nI t.nN = 7 from fun z => q2 ((nI_eq (b := 7) (by omega) (by omega)).mp z))]
        obtain ⟨s1, e1, g1, g2⟩ := m_findsTriangle (N := N) r i hN hw
        rw [e1, bS_s, if_bI0]
        unfold pl5
        by_cases hs : sec t w < 20
        · have hmt := g2 hs
          have rs := g1.RM r
          obtain ⟨a1, a2, a3, a4, a5, a6, a7, a8⟩ := sec_in hs
          have c1 := i.cb _ hwr
          have c2 := i.cb _ a2
          have c3 := i.cb _ a7
          have m1 := mul60 c1.2 c2.2
          have m2 := mul60 c1.2 c3.2
          have m3 := mul60 c2.2 c3.2
          have hprs : prs t w = t.c w * t.c (sec t w) + t.c w * t.c (thd t w) + t.c (sec t w) * t.c (thd t w) := rfl
          rw [decide_eq_true hs, if_pos rfl, m_products rs i hw hs hmt, bP_s, Bool.true_and]
          simp (disch := omega) only [r0, r1, r2, hmt.1.1, hmt.1.2.1, hmt.1.2.2, rI_n, rs.c w hw, rs.c _ hs, rs.c _ a6]
          rw [m_isWhole (by omega) (by omega) (by omega), bP_s, if_bI0, m_isWhole (by omega) (by omega) (by omega), bP_s, if_bI0, m_isWhole (by omega) (by omega) (by omega), bP_s, if_bI0]
          refine ⟨s1, ?_, g1, fun _ => hmt⟩
          have : psB t (some (Mv.mk 0 ((2 ^ w ||| 2 ^ sec t w) ||| 2 ^ thd t w) none 1 [(t.f w, t.nN, prs t w / t.c (thd t w)), (t.s w, t.nN, prs t w / t.c (sec t w)), (t.far (sec t w) (t.f w), t.nN, prs t w / t.c w)])) = true := decide_eq_true ⟨by show t.nN + 1 ≤ 7; omega, q⟩
          cases whl (prs t w) (t.c w)
          · rw [Bool.and_false, Bool.and_false]; rfl
          · cases whl (prs t w) (t.c (sec t w))
            · rw [Bool.false_and, Bool.and_false]; rfl
            · cases whl (prs t w) (t.c (thd t w))
              · rfl
              · simp only [Bool.and_self, if_true]
                rw [this]; rfl
        · rw [decide_eq_false hs]
          exact ⟨s1, rfl, g1, fun z => absurd z (by simp [psB])⟩
    · rw [if_pos (show (20 : Int32) < nI (t.nW + 3) from nI_lt (a := 20) (by omega) (by omega)), none' (fun z => q z.2)]
      exact ⟨τ, rfl, FrQ.rfl' τ, fun z => absurd z Bool.false_ne_true⟩
  obtain ⟨τ', e, g1, g2⟩ := main
  refine ⟨τ', ?_, g1, g2⟩
  unfold f_X8_isPossible
  rw [if_neg (by decide), if_neg (by decide), if_neg (by decide), if_neg (by decide), if_neg (by decide), e, bS_s, zb_bI]
end mposs
