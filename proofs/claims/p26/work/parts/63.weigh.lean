/-! THE CLASS'S COUNTS: what begin leaves, and what weigh adds up. -/
theorem li_l {c x : Nat} (hc : c < 2 ^ 31) (a : Nat) : lN a + (nI c).toInt64 * lN x = lN (a + c * x) := by
  rw [nI_l hc]
  show Int64.ofNat a + Int64.ofNat c * Int64.ofNat x = Int64.ofNat (a + c * x)
  rw [← Int64.ofNat_mul, ← Int64.ofNat_add]
/-- what weigh takes as given -/
def WI (σ : Wd) (t : Nt) (R z m a b : Nat) (V : Nat → Nat) : Prop := RN σ t ∧ σ.1 5 3 = nI R ∧ σ.1 5 5 = nI z ∧ σ.1 5 6 = nI a ∧ σ.1 5 7 = nI b ∧ ∀ j, j < m → σ.1 6 j = nI (V j)
theorem WI.same {σ σ' : Wd} {t : Nt} {R z m a b : Nat} {V : Nat → Nat} (h : WI σ t R z m a b V) (h1 : ∀ p, p < 8 → σ'.1 p = σ.1 p) : WI σ' t R z m a b V := by
  obtain ⟨q0, q1, q2, q3, q4, q5⟩ := h
  refine ⟨q0.same (fun p _ hp => h1 p (by omega)), ?_, ?_, ?_, ?_, fun j hj => ?_⟩
  · rw [h1 5 (by omega)]; exact q1
  · rw [h1 5 (by omega)]; exact q2
  · rw [h1 5 (by omega)]; exact q3
  · rw [h1 5 (by omega)]; exact q4
  · rw [h1 6 (by omega)]; exact q5 j hj
/-- wires at places, there -/
def VW (t : Nt) (m : Nat) (V : Nat → Nat) : Prop := m ≤ 20 ∧ ∀ j, j < m → V j < 20 ∧ t.wr.testBit (V j) = true
section weigh
variable {N : Nat} {t : Nt}
theorem v_wireOf {σ : Wd} {R z m a b : Nat} {V : Nat → Nat} (h : WI σ t R z m a b V) (hm : m ≤ 20) {j : Nat} (hj : j < m) : f_X0_wireOf N σ (nI j) = some (nI (V j)) := by
  unfold f_X0_wireOf
  simp (disch := omega) only [lt0, if_false, lq20, nI_leI, if_neg, rI_n, h.2.2.2.2.2 j hj]
theorem v_areTogether {σ : Wd} {R z m a b k : Nat} {V : Nat → Nat} {T : List Ed} (h : WI σ t R z m a b V) (hr : RowT σ k T) (hk : k < 8) (ha : a < 7) (hb : b < 7) : f_X0_areTogether N σ (nI k) = some (bI ((cs T a).testBit b)) := by
  have h1 := cs_lt T a
  unfold f_X0_areTogether
  simp (disch := omega) only [gI, h.2.2.2.1, h.2.2.2.2.1, v_treeAround hr, bP_s, v_isIn, zb_bI]
theorem v_weigh (i : IN t) (hN : 100 ≤ N) {R z m a b : Nat} {V : Nat → Nat} (hR : R < 128) (hz : z ≤ 7) (hV : VW t m V) (ha : a < 7) (hb : b < 7) : ∀ (need d k below : Nat) (T : List Ed) (σ : Wd), need < d → k + need = z → below ≤ m → WI σ t R z m a b V → RowT σ k T →
    ∃ σ', f_X0_weigh N d σ (nI k) (nI below) = some (lN (wgh (fun j => t.g (V j)) (okR R) (fun T => (cs T a).testBit b) need below T), σ') ∧ (∀ p, p ≤ 8 + k → σ'.1 p = σ.1 p) ∧ (∀ p, 15 < p → σ'.1 p = σ.1 p) ∧ σ'.2 = σ.2 := by
  intro need
  induction need with
  | zero =>
    intro d k below T σ hd hk hbe hw hr
    obtain ⟨d, rfl⟩ : ∃ e, d = e + 1 := ⟨d - 1, by omega⟩
    refine ⟨σ, ?_, fun p _ => rfl, fun p _ => rfl, rfl⟩
    rw [f_X0_weigh]
    simp (disch := omega) only [gI, hw.2.2.1, nI_ltI, if_neg, v_areTogether hw hr, bP_s, if_bI0]
    unfold wgh
    cases (cs T a).testBit b <;> rfl
  | succ need ih =>
    intro d k below T σ hd hk hbe hw hr
    obtain ⟨d, rfl⟩ : ∃ e, d = e + 1 := ⟨d - 1, by omega⟩
    have hb20 := hV.1
    have go : ∀ r p n (s : Wd), need ≤ p → p + r = below → r < n → WI s t R z m a b V → RowT s k T →
        ∃ s', fl_X0_weigh_34 N (f_X0_weigh N d) (nI k) (nI below) (fun v13 s14 => some (v13, s14)) n (lN ((List.range p).foldl (fun s pl => if need ≤ pl ∧ okR R (t.g (V pl)) T = true then s + (t.g (V pl)).2.2 * wgh (fun j => t.g (V j)) (okR R) (fun T => (cs T a).testBit b) need pl (t.g (V pl) :: T) else s) 0)) (nI p) s
          = some (lN ((List.range below).foldl (fun s pl => if need ≤ pl ∧ okR R (t.g (V pl)) T = true then s + (t.g (V pl)).2.2 * wgh (fun j => t.g (V j)) (okR R) (fun T => (cs T a).testBit b) need pl (t.g (V pl) :: T) else s) 0), s') ∧ (∀ p, p ≤ 8 + k → s'.1 p = s.1 p) ∧ (∀ p, 15 < p → s'.1 p = s.1 p) ∧ s'.2 = s.2 := by
      intro r
      induction r with
      | zero =>
        intro p n s hp hr0 hn hws hrs
        obtain ⟨n, rfl⟩ : ∃ e, n = e + 1 := ⟨n - 1, by omega⟩
        have hpb : p = below := by omega
        refine ⟨s, ?_, fun p _ => rfl, fun p _ => rfl, rfl⟩
        rw [fl_X0_weigh_34, hpb]
        simp (disch := omega) only [nI_leI, if_pos]
      | succ r ihr =>
        intro p n s hp hr0 hn hws hrs
        obtain ⟨n, rfl⟩ : ∃ e, n = e + 1 := ⟨n - 1, by omega⟩
        obtain ⟨hV1, hV2⟩ := hV.2 p (by omega)
        obtain ⟨s6, e1, h1, h2, h3⟩ := v_canTake (N := N) hws.1 i hN hV1 (show k < 7 by omega) hR hws.2.1 hrs
        have hw6 : WI s6 t R z m a b V := hws.same (fun q hq => h2 q (by omega))
        have hr6 : RowT s6 k T := hrs.same (h2 _ (by omega))
        rw [fl_X0_weigh_34]
        simp (disch := omega) only [nI_leI, if_neg]
        rw [v_wireOf hws (by omega) (by omega), bP_s, e1, bS_s, jn_e, if_bI0]
        have hfold : (List.range (p + 1)).foldl (fun s pl => if need ≤ pl ∧ okR R (t.g (V pl)) T = true then s + (t.g (V pl)).2.2 * wgh (fun j => t.g (V j)) (okR R) (fun T => (cs T a).testBit b) need pl (t.g (V pl) :: T) else s) 0
            = if need ≤ p ∧ okR R (t.g (V p)) T = true then (List.range p).foldl (fun s pl => if need ≤ pl ∧ okR R (t.g (V pl)) T = true then s + (t.g (V pl)).2.2 * wgh (fun j => t.g (V j)) (okR R) (fun T => (cs T a).testBit b) need pl (t.g (V pl) :: T) else s) 0 + (t.g (V p)).2.2 * wgh (fun j => t.g (V j)) (okR R) (fun T => (cs T a).testBit b) need p (t.g (V p) :: T) else (List.range p).foldl (fun s pl => if need ≤ pl ∧ okR R (t.g (V pl)) T = true then s + (t.g (V pl)).2.2 * wgh (fun j => t.g (V j)) (okR R) (fun T => (cs T a).testBit b) need pl (t.g (V pl) :: T) else s) 0 := by
          rw [List.range_succ, List.foldl_append]
          rfl
        cases hq : okR R (t.g (V p)) T
        · obtain ⟨s', e2, g1, g2, g3⟩ := ihr (p + 1) n s6 (by omega) (by omega) (by omega) hw6 hr6
          refine ⟨s', ?_, fun q hq => ?_, fun q hq => ?_, ?_⟩
          · rw [hfold, hq] at e2
            rw [if_neg (by rintro ⟨-, x⟩; exact absurd x (by decide))] at e2
            simp only [Bool.false_eq_true, if_false, nI_1]
            exact e2
          · rw [g1 q hq, h2 q (by omega)]
          · rw [g2 q hq, h2 q (by omega)]
          · rw [g3, h3]
        · obtain ⟨s9, e3, f1, f2, f3⟩ := ih d (k + 1) p (t.g (V p) :: T) s6 (by omega) (by omega) (by omega) hw6 (h1 hq)
          obtain ⟨s', e2, g1, g2, g3⟩ := ihr (p + 1) n s9 (by omega) (by omega) (by omega) (hw6.same (fun q hq => f1 q (by omega))) (hr6.same (f1 _ (by omega)))
          have hc := i.cb _ hV2
          have hwn := bit_lt i.wr hV2
          refine ⟨s', ?_, fun q hq => ?_, fun q hq => ?_, ?_⟩
          · rw [hfold, hq, if_pos ⟨hp, rfl⟩] at e2
            simp only [if_true]
            rw [v_conductanceOf hw6.1 hV1 hwn, bP_s, nI_1, e3, bS_s, nI_1]
            simp only [lL]
            rw [li_l (by omega)]
            exact e2
          · rw [g1 q hq, f1 q (by omega), h2 q (by omega)]
          · rw [g2 q hq, f2 q hq, h2 q (by omega)]
          · rw [g3, f3, h3]
    have zero : ∀ p, p ≤ need → (List.range p).foldl (fun s pl => if need ≤ pl ∧ okR R (t.g (V pl)) T = true then s + (t.g (V pl)).2.2 * wgh (fun j => t.g (V j)) (okR R) (fun T => (cs T a).testBit b) need pl (t.g (V pl) :: T) else s) 0 = 0 := by
      intro p
      induction p with
      | zero => intro _; rfl
      | succ p ihp =>
        intro hp
        rw [List.range_succ, List.foldl_append, ihp (by omega)]
        exact if_neg (fun x => absurd x.1 (by omega))
    rw [f_X0_weigh]
    simp (disch := omega) only [gI, hw.2.2.1, nI_ltI, if_pos, lI, pk_sub]
    rw [show z - k = need + 1 by omega, nI_pred]
    unfold wgh
    by_cases hnb : need ≤ below
    · obtain ⟨s', e1, h1, h2, h3⟩ := go (below - need) need N σ (Nat.le_refl _) (by omega) (by omega) hw hr
      rw [zero need (Nat.le_refl _)] at e1
      exact ⟨s', e1, h1, h2, h3⟩
    · refine ⟨σ, ?_, fun p _ => rfl, fun p _ => rfl, rfl⟩
      rw [zero below (by omega)]
      obtain ⟨n, rfl⟩ : ∃ e, N = e + 1 := ⟨N - 1, by omega⟩
      rw [fl_X0_weigh_34]
      simp (disch := omega) only [nI_leI, if_pos]
      rfl
end weigh
