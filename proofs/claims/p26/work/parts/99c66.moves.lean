/-! MOVES: class and law do them alike. -/
section mvc
variable {N : Nat} {σ ν : Wd} {mk : Int32} {t : Nt} {B : Prop}
theorem doC_core (r : RN σ t) (i : IN t) (hN : 100 ≤ N) {o : Option Mv} {kk ww : Int32} {P : Wd → Option Wd} {easy : Prop} {m : Nat} (hm : m < 20) (hkm : σ.1 28 9 = nI m)
    (hdo : ∀ s0, f_X5_begin N σ = some s0 → f_X3_doIfPossible N σ kk ww = bP (P s0) fun s10 => fin98 N s10)
    (hP : ∀ s, RN s t → s.1 29 0 = 0 → PS s (Mv.mk 0 0 none 0 []) → ∃ s', P s = some s' ∧ PO s s' o)
    (hq : ∀ M, o = some M → QMv t M) (he : easy → ∀ M, o = some M → M.L.length < pc M.wg) :
    (pm t o = none ∧ ∃ s1, f_X3_doIfPossible N σ kk ww = some (0, s1) ∧ EqC σ s1) ∨
    (∃ M s1 σ', pm t o = some M ∧ GM t M ∧ (easy → M.L.length < pc M.wg) ∧ f_X3_doIfPossible N σ kk ww = some (1, σ') ∧ EqC σ s1 ∧ CF t M m s1 σ') := by
  obtain ⟨s0, e0, z0, ps0, fr0⟩ := v_begin5 (N := N) (σ := σ)
  obtain ⟨s1, e1, fr1, po⟩ := hP s0 (fr0.RN r) z0 ps0
  have hd := hdo s0 e0
  rw [e1, bP_s] at hd
  have fr := fr0.trans fr1
  have r1 := fr.RN r
  rcases po with ⟨ho, hz⟩ | ⟨M, ho, hone, ps⟩
  · exact Or.inl ⟨by rw [ho]; rfl, s1, hd.trans (fin_no hz), fr.eq⟩
  · obtain ⟨n1, n2, n3⟩ := hq M ho
    by_cases hroom : t.nN + M.nn ≤ 7 ∧ t.nW + M.L.length ≤ 20
    · have g := n3 hroom.1 hroom.2
      obtain ⟨s2, f1, f2, f3, f4, f5, f6, f7, f8⟩ := fin_yes (N := N) r1 i hone ps g hm (by rw [fr.2 28 (by omega)]; exact hkm) hN
      exact Or.inr ⟨M, s1, s2, by rw [ho]; exact pm_some hroom, g, fun z => he z M ho, hd.trans f1, fr.eq, f2, f3, f4, f5, f6, f7, f8⟩
    · exact Or.inl ⟨by rw [ho]; exact pm_full hroom, s1, hd.trans (fin_full r1 i ps n1 n2 hroom), fr.eq⟩
theorem doC (r : RN σ t) (i : IN t) (hN : 100 ≤ N) {k w : Nat} (hk : k ≤ 5) (hb : thB k t w = true) {m : Nat} (hm : m < 20) (hkm : σ.1 28 9 = nI m) :
    (pm t (plK k t w) = none ∧ ∃ s1, f_X3_doIfPossible N σ (nI k) (nI w) = some (0, s1) ∧ EqC σ s1) ∨
    (∃ M s1 σ', pm t (plK k t w) = some M ∧ GM t M ∧ (k ≤ 3 → M.L.length < pc M.wg) ∧ f_X3_doIfPossible N σ (nI k) (nI w) = some (1, σ') ∧ EqC σ s1 ∧ CF t M m s1 σ') := by
  have h7 := i.nd7
  have h20 := i.wr20
  rcases (show k = 0 ∨ k = 1 ∨ k = 2 ∨ k = 3 ∨ k = 4 ∨ k = 5 by omega) with rfl | rfl | rfl | rfl | rfl | rfl
  · have hw20 := bit20 h20 hb
    refine doC_core (o := pl0 t w) r i hN hm hkm (P := fun s => f_X3_planLoop N s (nI w)) (fun s0 e => ?_) (fun s r z ps => v_planLoop r i hw20 z ps) (fun M hM => (gq_0 i hb hM).1) (fun _ M hM => (gq_0 i hb hM).2)
    unfold f_X3_doIfPossible
    rw [e, bP_s]
    simp only [jn_e]
    rw [if_pos (show nI 0 = 0 from rfl)]; rfl
  · have hw20 := bit20 h20 hb
    refine doC_core (o := pl1 t w) r i hN hm hkm (P := fun s => f_X3_planParallel N s (nI w)) (fun s0 e => ?_) (fun s r z ps => v_planParallel r i hN hw20 hb z ps) (fun M hM => (gq_1 i hb hM).1) (fun _ M hM => (gq_1 i hb hM).2)
    unfold f_X3_doIfPossible
    rw [e, bP_s]
    simp only [jn_e]
    rw [if_neg (by decide), if_pos (show nI 1 = 1 from rfl)]; rfl
  · have hv := bit7 h7 hb
    refine doC_core (o := pl2 t w) r i hN hm hkm (P := fun s => f_X3_planSpike N s (nI w)) (fun s0 e => ?_) (fun s r z ps => v_planSpike r i hN hv z ps) (fun M hM => (gq_2 i hb hM).1) (fun _ M hM => (gq_2 i hb hM).2)
    unfold f_X3_doIfPossible
    rw [e, bP_s]
    simp only [jn_e]
    rw [if_neg (by decide), if_neg (by decide), if_pos (show nI 2 = 2 from rfl)]; rfl
  · have hv := bit7 h7 hb
    refine doC_core (o := pl3 t w) r i hN hm hkm (P := fun s => f_X3_planSeries N s (nI w)) (fun s0 e => ?_) (fun s r z ps => v_planSeries r i hN hv z ps) (fun M hM => (gq_3 i hb hM).1) (fun _ M hM => (gq_3 i hb hM).2)
    unfold f_X3_doIfPossible
    rw [e, bP_s]
    simp only [jn_e]
    rw [if_neg (by decide), if_neg (by decide), if_neg (by decide), if_pos (show nI 3 = 3 from rfl)]; rfl
  · have hv := bit7 h7 hb
    refine doC_core (o := pl4 t w) r i hN hm hkm (P := fun s => f_X3_planTriangle N s (nI w)) (fun s0 e => ?_) (fun s r z ps => v_planTriangle r i hN hv z ps) (fun M hM => gq_4 i hb hM) (fun z => absurd z (by decide))
    unfold f_X3_doIfPossible
    rw [e, bP_s]
    simp only [jn_e]
    rw [if_neg (by decide), if_neg (by decide), if_neg (by decide), if_neg (by decide), if_pos (show nI 4 = 4 from rfl)]; rfl
  · have hw20 := bit20 h20 hb
    refine doC_core (o := pl5 t w) r i hN hm hkm (P := fun s => f_X3_planStar N s (nI w)) (fun s0 e => ?_) (fun s r z ps => v_planStar r i hN hw20 hb z ps) (fun M hM => gq_5 i hb hM) (fun z => absurd z (by decide))
    unfold f_X3_doIfPossible
    rw [e, bP_s]
    simp only [jn_e]
    rw [if_neg (by decide), if_neg (by decide), if_neg (by decide), if_neg (by decide), if_neg (by decide), if_pos (show nI 5 = 5 from rfl)]; rfl
theorem thB_20 (i : IN t) {k w : Nat} (hb : thB k t w = true) : w < 20 := by
  unfold thB at hb
  split at hb
  · exact bit20 i.wr20 hb
  · have := bit7 i.nd7 hb; omega
/-- both, at a wire or node that is there -/
theorem mv_both (h : RT N σ ν mk t True) (hN : 100 ≤ N) {k w : Nat} (hk : k ≤ 5) (hb : thB k t w = true) :
    (pm t (plK k t w) = none ∧ ∃ s1, f_X3_doIfPossible N σ (nI k) (nI w) = some (0, s1) ∧ RT N s1 ν mk t True ∧ f_L_does N ν (nI k) (nI w) = some (0, ν)) ∨
    (∃ M σ' ν' m, pm t (plK k t w) = some M ∧ m ≤ 18 ∧ f_X3_doIfPossible N σ (nI k) (nI w) = some (1, σ') ∧ f_L_does N ν (nI k) (nI w) = some (1, ν') ∧ ν'.1 0 5 = nI m ∧ RT N σ' (sI (sI ν' 0 5 (nI (m + 1))) 8 m (nI (32 * k + w))) mk (t.app M) True ∧ (k ≤ 3 → pc (t.app M).wr < pc t.wr)) := by
  have i := h.2.2.1
  obtain ⟨m0, sn0, k1, -, k3, -⟩ := h.2.2.2.2.2
  have hW := i.nW
  obtain ⟨d1, d2⟩ := ldoes (N := N) h.2.1 i hN hk hb
  rcases doC (N := N) h.1 i hN hk hb (show m0 < 20 by omega) k1 with ⟨ho, s1, e1, f1⟩ | ⟨M, s1, σ', ho, g, hea, e1, f1, hc⟩
  · exact Or.inl ⟨ho, s1, e1, h.eq f1, d1 ho⟩
  · obtain ⟨ν', e2, rq, fr⟩ := d2 M ho
    have hD : Dn N t k w (t.app M) := ⟨hk, thB_20 i hb, fun ν2 r2 => by
      obtain ⟨-, q2⟩ := ldoes (N := N) r2 i hN hk hb
      exact q2 M ho⟩
    obtain ⟨m, m18, ms, mn, hmove⟩ := RT_move (h.eq f1) g hD
    have em : m = m0 := by
      rw [f1.2.1, k1] at ms
      exact ((nI_eq (by omega) (by omega)).mp ms).symm
    subst em
    refine Or.inr ⟨M, σ', ν', m, ho, m18, e1, e2, fr.2.2.trans mn, hmove σ' ν' hc rq fr, fun z => ?_⟩
    have hl := hea z
    obtain ⟨-, -, -, G4, -⟩ := g.app i
    omega
/-- the class's call -/
theorem l_move (h : RT N σ ν mk t True) (hN : 100 ≤ N) {k w : Nat} (hk : k ≤ 5) (hw : w < 20) :
    (thB k t w = false ∧ f_L_move N σ (nI k) (nI w) = some (-7100, σ)) ∨
    (thB k t w = true ∧ ((f_L_does N ν (nI k) (nI w) = some (0, ν) ∧ ∃ s1, f_L_move N σ (nI k) (nI w) = some (-7300, s1) ∧ RT N s1 ν mk t True) ∨
      (∃ M σ' ν' m, m ≤ 18 ∧ f_L_move N σ (nI k) (nI w) = some (0, σ') ∧ f_L_does N ν (nI k) (nI w) = some (1, ν') ∧ ν'.1 0 5 = nI m ∧ RT N σ' (sI (sI ν' 0 5 (nI (m + 1))) 8 m (nI (32 * k + w))) mk (t.app M) True))) := by
  have i := h.2.2.1
  have o7 := ofw7 (N := N) hk
  have need : f_X7_needWireOrNode N σ (nI k) (nI w) = some (if thB k t w = true then Sum.inr () else Sum.inl 1, σ) := by
    unfold f_X7_needWireOrNode thB
    rw [o7, bP_s, if_bI0]
    cases (k == 0 || k == 1 || k == 5)
    · rw [if_neg (by decide), v_needNode h.1 i, inS_n (by omega)]; cases t.nd.testBit w <;> rfl
    · rw [if_pos rfl, v_needWire h.1 i, inS_n (by omega)]; cases t.wr.testBit w <;> rfl
  have em : f_X7_move N σ (nI k) (nI w) = bX (some (if thB k t w = true then Sum.inr () else Sum.inl 1, σ)) fun (_ : Unit) s2 => bS (f_X3_doIfPossible N s2 (nI k) (nI w)) fun v3 s4 => if v3 = 0 then (some (Sum.inl 3, s4)) else (some (Sum.inr (), s4)) := by
    unfold f_X7_move
    simp only [jn_e]
    rw [if_neg (nI_pos (by omega)), if_neg (show ¬ (5 : Int32) < nI k from nI_nlt (a := 5) hk (by omega)), need]
  unfold f_L_move
  cases hb : thB k t w
  · refine Or.inl ⟨rfl, ?_⟩
    rw [em, hb]
    rfl
  · refine Or.inr ⟨rfl, ?_⟩
    rcases mv_both (N := N) h hN hk hb with ⟨ho, s1, e1, f1, d1⟩ | ⟨M, σ', ν', m, ho, m18, e1, e2, e3, rt, -⟩
    · refine Or.inl ⟨d1, s1, ?_, f1⟩
      rw [em, hb]
      simp only [if_true, bX]
      rw [e1, bS_s, if_pos rfl]
      rfl
    · refine Or.inr ⟨M, σ', ν', m, m18, ?_, e2, e3, rt⟩
      rw [em, hb]
      simp only [if_true, bX]
      rw [e1, bS_s, if_neg (by decide)]
      rfl
theorem l_move6 : f_L_move N σ 6 0 = some (-7200, σ) := by
  unfold f_L_move f_X7_move
  simp only [jn_e]
  rw [if_neg (by decide), if_pos (by decide)]
  rfl
theorem l_tree1 : f_L_tree N σ (-1) = some (-7200, σ) := by
  unfold f_L_tree f_X7_tree
  rw [if_neg (by decide)]
  rfl
end mvc
