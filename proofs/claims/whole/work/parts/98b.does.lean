/-! MOVES: class and reference do them alike. -/
/-- what comes of a kind and a wire or node -/
def DoR (N : Nat) (σ τ : Wd) (t : Nt) (kk ww : Int32) (easy : Prop) : Prop :=
  (∃ σ' τ1, f_X3_doIfPossible N σ kk ww = some (0, σ') ∧ f_X8_isPossible N τ kk ww = some (0, τ1) ∧ RT σ' τ1 t ∧ τ1.1 0 0 = τ.1 0 0) ∨
  (∃ σ' τ1 τ' t', f_X3_doIfPossible N σ kk ww = some (1, σ') ∧ f_X8_isPossible N τ kk ww = some (1, τ1) ∧ f_X8_does N τ1 kk ww = some τ' ∧ RT σ' τ' t' ∧ τ1.1 0 0 = τ.1 0 0 ∧ τ'.1 0 0 = τ.1 0 0 ∧ (easy → pc t'.wr < pc t.wr))
section does
variable {N : Nat} {σ τ : Wd} {t : Nt}
theorem do_core (h : RT σ τ t) (hN : 5000 ≤ N) {o : Option Mv} {kk ww : Int32} {P : Wd → Option Wd} {easy : Prop}
    (hdo : ∀ s0, f_X5_begin N σ = some s0 → f_X3_doIfPossible N σ kk ww = bP (P s0) fun s10 => fin98 N s10)
    (hP : ∀ s, RN s t → s.1 29 0 = 0 → PS s (Mv.mk 0 0 none 0 []) → ∃ s', P s = some s' ∧ PO s s' o)
    (hq : ∀ M, o = some M → QMv t M) (he : easy → ∀ M, o = some M → M.L.length < pc M.wg)
    {τ1 : Wd} (hposs : f_X8_isPossible N τ kk ww = some (bI (psB t o), τ1)) (hfq : FrQ τ τ1)
    (hdoes : ∀ m M, m ≤ 18 → τ1.1 0 10 = nI m → RM τ1 t → psB t o = true → o = some M → GM t M → ∃ τ', f_X8_does N τ1 kk ww = some τ' ∧ DN t (t.app M) m τ1 τ') : DoR N σ τ t kk ww easy := by
  have i := h.2.2.1
  obtain ⟨s0, e0, z0, ps0, fr0⟩ := v_begin5 (N := N) (σ := σ)
  obtain ⟨s1, e1, fr1, po⟩ := hP s0 (fr0.RN h.1) z0 ps0
  have hd := hdo s0 e0
  rw [e1, bP_s] at hd
  have fr := fr0.trans fr1
  have r1 := fr.RN h.1
  have t00 : τ1.1 0 0 = τ.1 0 0 := by rw [hfq.2 0 (by omega) (by omega)]
  have no : fin98 N s1 = some (0, s1) → psB t o = false → DoR N σ τ t kk ww easy := fun hf hb => by
    refine Or.inl ⟨s1, τ1, hd.trans hf, ?_, h.eq fr.eq hfq.eq, t00⟩
    rw [hposs, hb]; rfl
  rcases po with ⟨ho, hz⟩ | ⟨M, ho, hone, ps⟩
  · exact no (fin_no hz) (by rw [ho]; rfl)
  · obtain ⟨n1, n2, n3⟩ := hq M ho
    by_cases hroom : t.nN + M.nn ≤ 7 ∧ t.nW + M.L.length ≤ 20
    · have g := n3 hroom.1 hroom.2
      have hb : psB t o = true := by rw [ho]; exact decide_eq_true hroom
      obtain ⟨m, m18, ms, mt, hmove⟩ := RT_move (h.eq fr.eq hfq.eq) g
      obtain ⟨s2, f1, f2, f3, f4, f5, f6, f7, f8⟩ := fin_yes (N := N) r1 i hone ps g (show m < 20 by omega) ms (by omega)
      obtain ⟨τ', d1, d2⟩ := hdoes m M m18 mt (hfq.RM h.2.1) hb ho g
      refine Or.inr ⟨s2, τ1, τ', t.app M, hd.trans f1, ?_, d1, hmove s2 τ' ⟨f2, f3, f4, f5, f6, f7, f8⟩ d2, t00, (d2.2.2.2.2.1 0 (Or.inl rfl)).trans t00, fun hea => ?_⟩
      · rw [hposs, hb]; rfl
      · have hl := he hea M ho
        obtain ⟨-, -, -, G4, -⟩ := g.app i
        omega
    · exact no (fin_full r1 i ps n1 n2 hroom) (by rw [ho]; exact decide_eq_false hroom)
theorem do_0 (h : RT σ τ t) (hN : 5000 ≤ N) {w : Nat} (hw : t.wr.testBit w = true) : DoR N σ τ t 0 (nI w) True := by
  have i := h.2.2.1
  have h20 := bit20 i.wr20 hw
  refine do_core h hN (o := pl0 t w) (P := fun s => f_X3_planLoop N s (nI w)) (fun s0 e => ?_) (fun s r z ps => v_planLoop r i h20 z ps) (fun M hM => (gq_0 i hw hM).1) (fun _ M hM => (gq_0 i hw hM).2) (m_poss0 h.2.1 i h20) (FrQ.rfl' τ) (fun m M hm hk r _ hM _ => m_does0 r (by omega) hm hk h20 hM)
  unfold f_X3_doIfPossible
  rw [e, bP_s]
  simp only [jn_e]
  rw [if_pos trivial]; rfl
theorem do_1 (h : RT σ τ t) (hN : 5000 ≤ N) {w : Nat} (hw : t.wr.testBit w = true) : DoR N σ τ t 1 (nI w) True := by
  have i := h.2.2.1
  have h20 := bit20 i.wr20 hw
  refine do_core h hN (o := pl1 t w) (P := fun s => f_X3_planParallel N s (nI w)) (fun s0 e => ?_) (fun s r z ps => v_planParallel r i (by omega) h20 hw z ps) (fun M hM => (gq_1 i hw hM).1) (fun _ M hM => (gq_1 i hw hM).2) (m_poss1 h.2.1 i (by omega) h20 hw) (FrQ.rfl' τ) (fun m M hm hk r _ hM _ => m_does1 r i (by omega) hm hk h20 hM)
  unfold f_X3_doIfPossible
  rw [e, bP_s]
  simp only [jn_e]
  rw [if_neg (by decide), if_pos trivial]; rfl
theorem do_2 (h : RT σ τ t) (hN : 5000 ≤ N) {v : Nat} (hv : t.nd.testBit v = true) : DoR N σ τ t 2 (nI v) True := by
  have i := h.2.2.1
  have h7 := bit7 i.nd7 hv
  obtain ⟨τ1, p1, p2, p3⟩ := m_poss2 (N := N) h.2.1 i (by omega) h7
  refine do_core h hN (o := pl2 t v) (P := fun s => f_X3_planSpike N s (nI v)) (fun s0 e => ?_) (fun s r z ps => v_planSpike r i (by omega) h7 z ps) (fun M hM => (gq_2 i hv hM).1) (fun _ M hM => (gq_2 i hv hM).2) p1 p2 (fun m M hm hk r hb hM _ => m_does2 r (by omega) hm hk h7 hM (p3 (by
    unfold pl2 at hM
    split at hM
    · assumption
    · exact absurd hM (by simp))))
  unfold f_X3_doIfPossible
  rw [e, bP_s]
  simp only [jn_e]
  rw [if_neg (by decide), if_neg (by decide), if_pos trivial]; rfl
theorem do_3 (h : RT σ τ t) (hN : 5000 ≤ N) {v : Nat} (hv : t.nd.testBit v = true) : DoR N σ τ t 3 (nI v) True := by
  have i := h.2.2.1
  have h7 := bit7 i.nd7 hv
  obtain ⟨τ1, p1, p2, p3⟩ := m_poss3 (N := N) h.2.1 i (by omega) h7
  refine do_core h hN (o := pl3 t v) (P := fun s => f_X3_planSeries N s (nI v)) (fun s0 e => ?_) (fun s r z ps => v_planSeries r i (by omega) h7 z ps) (fun M hM => (gq_3 i hv hM).1) (fun _ M hM => (gq_3 i hv hM).2) p1 p2 (fun m M hm hk r hb hM g => m_does3 r i (by omega) hm hk h7 hM g (p3 hb))
  unfold f_X3_doIfPossible
  rw [e, bP_s]
  simp only [jn_e]
  rw [if_neg (by decide), if_neg (by decide), if_neg (by decide), if_pos trivial]; rfl
theorem do_4 (h : RT σ τ t) (hN : 5000 ≤ N) {v : Nat} (hv : t.nd.testBit v = true) : DoR N σ τ t 4 (nI v) False := by
  have i := h.2.2.1
  have h7 := bit7 i.nd7 hv
  obtain ⟨τ1, p1, p2, p3⟩ := m_poss4 (N := N) h.2.1 i (by omega) h7
  refine do_core h hN (o := pl4 t v) (P := fun s => f_X3_planTriangle N s (nI v)) (fun s0 e => ?_) (fun s r z ps => v_planTriangle r i (by omega) h7 z ps) (fun M hM => gq_4 i hv hM) (fun z => z.elim) p1 p2 (fun m M hm hk r hb hM g => m_does4 r i (by omega) hm hk h7 hM g (p3 hb))
  unfold f_X3_doIfPossible
  rw [e, bP_s]
  simp only [jn_e]
  rw [if_neg (by decide), if_neg (by decide), if_neg (by decide), if_neg (by decide), if_pos trivial]; rfl
theorem do_5 (h : RT σ τ t) (hN : 5000 ≤ N) {w : Nat} (hw : t.wr.testBit w = true) : DoR N σ τ t 5 (nI w) False := by
  have i := h.2.2.1
  have h20 := bit20 i.wr20 hw
  obtain ⟨τ1, p1, p2, p3⟩ := m_poss5 (N := N) h.2.1 i (by omega) h20 hw
  refine do_core h hN (o := pl5 t w) (P := fun s => f_X3_planStar N s (nI w)) (fun s0 e => ?_) (fun s r z ps => v_planStar r i (by omega) h20 hw z ps) (fun M hM => gq_5 i hw hM) (fun z => z.elim) p1 p2 (fun m M hm hk r hb hM g => m_does5 r i (by omega) hm hk h20 hw hM g (p3 hb))
  unfold f_X3_doIfPossible
  rw [e, bP_s]
  simp only [jn_e]
  rw [if_neg (by decide), if_neg (by decide), if_neg (by decide), if_neg (by decide), if_neg (by decide), if_pos trivial]; rfl
end does
