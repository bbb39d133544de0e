/-! THE CLASS'S TREE AT A PLACE. -/
theorem WI.same5 {σ σ' : Wd} {t : Nt} {R z m a b : Nat} {V : Nat → Nat} (h : WI σ t R z m a b V) (h1 : ∀ p, p < 8 → p ≠ 5 → σ'.1 p = σ.1 p) (h2 : ∀ j, j ≠ 8 → σ'.1 5 j = σ.1 5 j) : WI σ' t R z m a b V := by
  obtain ⟨q0, q1, q2, q3, q4, q5⟩ := h
  refine ⟨q0.same (fun p _ hp => h1 p (by omega) (by omega)), ?_, ?_, ?_, ?_, fun j hj => ?_⟩
  · rw [h2 3 (by omega)]; exact q1
  · rw [h2 5 (by omega)]; exact q2
  · rw [h2 6 (by omega)]; exact q3
  · rw [h2 7 (by omega)]; exact q4
  · rw [h1 6 (by omega) (by omega)]; exact q5 j hj
section find
variable {N : Nat} {t : Nt}
theorem v_find (i : IN t) (hN : 100 ≤ N) {R z m a b : Nat} {V : Nat → Nat} (hR : R < 128) (hz : z ≤ 7) (hV : VW t m V) : ∀ (need d k below : Nat) (T : List Ed) (σ : Wd) (q : Nat), need < d → k + need = z → below ≤ m → q < 2 ^ 31 → WI σ t R z m a b V → RowT σ k T → σ.1 5 8 = nI q →
    ∃ σ', f_X0_find N d σ (nI k) (nI below) = some (atI (lsF t V R need below T) q, σ') ∧ σ'.1 5 8 = lfI (lsF t V R need below T) q ∧ (∀ p, p ≤ 8 + k → p ≠ 5 → σ'.1 p = σ.1 p) ∧ (∀ j, j ≠ 8 → σ'.1 5 j = σ.1 5 j) ∧ (∀ p, 15 < p → σ'.1 p = σ.1 p) ∧ σ'.2 = σ.2 := by
  intro need
  induction need with
  | zero =>
    intro d k below T σ q hd hk hbe hq hw hr h8
    obtain ⟨d, rfl⟩ : ∃ e, d = e + 1 := ⟨d - 1, by omega⟩
    rw [f_X0_find, lsF_zero]
    simp (disch := omega) only [gI, hw.2.2.1, nI_ltI, if_neg, wI, sI_same, h8]
    by_cases q0 : q = 0
    · refine ⟨sI σ 5 8 (-1), ?_, ?_, fun p _ hp => sI_place hp, fun j hj => sI_slot hj, fun p hp => sI_place (by omega), rfl⟩
      · rw [q0, show nI 0 - 1 = -1 from rfl, if_neg (by decide)]; rfl
      · rw [q0]; exact sI_same _ _ _ _
    · obtain ⟨r, rfl⟩ : ∃ r, q = r + 1 := ⟨q - 1, by omega⟩
      refine ⟨sI σ 5 8 (nI r), ?_, ?_, fun p _ hp => sI_place hp, fun j hj => sI_slot hj, fun p hp => sI_place (by omega), rfl⟩
      · rw [nI_pred, if_pos (show (0 : Int32) ≤ nI r from nI_le (a := 0) (by omega) (by omega))]; rfl
      · exact sI_same _ _ _ _
  | succ need ih =>
    intro d k below T σ q hd hk hbe hq hw hr h8
    obtain ⟨d, rfl⟩ : ∃ e, d = e + 1 := ⟨d - 1, by omega⟩
    have hb20 := hV.1
    have go : ∀ r p n (s : Wd) (q : Nat), p + r = below → r < n → q < 2 ^ 31 → WI s t R z m a b V → RowT s k T → s.1 5 8 = nI q →
        ∃ s', fl_X0_find_40 N (f_X0_find N d) (nI k) (nI below) (fun s11 => some ((-1), s11)) n (nI p) s = some (atI (rsF t V R need T r p) q, s') ∧ s'.1 5 8 = lfI (rsF t V R need T r p) q ∧ (∀ p, p ≤ 8 + k → p ≠ 5 → s'.1 p = s.1 p) ∧ (∀ j, j ≠ 8 → s'.1 5 j = s.1 5 j) ∧ (∀ p, 15 < p → s'.1 p = s.1 p) ∧ s'.2 = s.2 := by
      intro r
      induction r with
      | zero =>
        intro p n s q hr0 hn hq hws hrs h8
        obtain ⟨n, rfl⟩ : ∃ e, n = e + 1 := ⟨n - 1, by omega⟩
        refine ⟨s, ?_, ?_, fun p _ _ => rfl, fun j _ => rfl, fun p _ => rfl, rfl⟩
        · rw [fl_X0_find_40, if_pos (nI_le (by omega) (by omega))]
          rfl
        · rw [h8]; rfl
      | succ r ihr =>
        intro p n s q hr0 hn hq hws hrs h8
        obtain ⟨n, rfl⟩ : ∃ e, n = e + 1 := ⟨n - 1, by omega⟩
        obtain ⟨hV1, hV2⟩ := hV.2 p (by omega)
        obtain ⟨s6, e1, h1, h2, h3⟩ := v_canTake (N := N) hws.1 i hN hV1 (show k < 7 by omega) hR hws.2.1 hrs
        have hw6 : WI s6 t R z m a b V := hws.same (fun q hq => h2 q (by omega))
        have hr6 : RowT s6 k T := hrs.same (h2 _ (by omega))
        have h86 : s6.1 5 8 = nI q := by rw [h2 5 (by omega)]; exact h8
        have eR : rsF t V R need T (r + 1) p = (if okR R (t.g (V p)) T = true then (lsF t V R need p (t.g (V p) :: T)).map (fun x => x ||| 2 ^ V p) else []) ++ rsF t V R need T r (p + 1) := rfl
        rw [fl_X0_find_40, eR]
        simp (disch := omega) only [nI_leI, if_neg]
        rw [v_wireOf hws (by omega) (by omega), bP_s, e1, bS_s, jn_e, if_bI0]
        cases hok : okR R (t.g (V p)) T
        · obtain ⟨s', e2, g0, g1, g2, g3, g4⟩ := ihr (p + 1) n s6 q (by omega) (by omega) hq hw6 hr6 h86
          refine ⟨s', ?_, ?_, fun x hx h5 => ?_, fun j hj => ?_, fun x hx => ?_, ?_⟩
          · simp only [Bool.false_eq_true, if_false, nI_1, List.nil_append]
            exact e2
          · simp only [Bool.false_eq_true, if_false, List.nil_append]
            exact g0
          · rw [g1 x hx h5, h2 x (by omega)]
          · rw [g2 j hj, h2 5 (by omega)]
          · rw [g3 x hx, h2 x (by omega)]
          · rw [g4, h3]
        · obtain ⟨s9, e3, f0, f1, f2, f3, f4⟩ := ih d (k + 1) p (t.g (V p) :: T) s6 q (by omega) (by omega) (by omega) hq hw6 (h1 hok) h86
          simp only [if_true]
          rw [nI_1, e3, bS_s]
          have hmem := lsF_lt (t := t) (V := V) (R := R) (need := need) (b := p) (T := t.g (V p) :: T) (fun j hj => (hV.2 j (by omega)).1)
          by_cases hl : q < (lsF t V R need p (t.g (V p) :: T)).length
          · have hx := hmem _ (getD_mem' hl)
            have e4 : atI (lsF t V R need p (t.g (V p) :: T)) q = nI ((lsF t V R need p (t.g (V p) :: T)).getD q 0) := if_pos hl
            refine ⟨s9, ?_, ?_, fun x hx h5 => ?_, fun j hj => ?_, fun x hx => ?_, ?_⟩
            · rw [e4, if_neg (by rw [nI_m1 (by omega)]; exact id), v_setOf (by omega), bP_s, fa_or, atI_left (by rw [List.length_map]; exact hl)]
              unfold atI
              rw [if_pos (by rw [List.length_map]; exact hl), getD_map' hl]
            · rw [lfI_left (by rw [List.length_map]; exact hl), f0]
              unfold lfI
              rw [List.length_map]
            · rw [f1 x (by omega) h5, h2 x (by omega)]
            · rw [f2 j hj, h2 5 (by omega)]
            · rw [f3 x hx, h2 x (by omega)]
            · rw [f4, h3]
          · have e4 : atI (lsF t V R need p (t.g (V p) :: T)) q = -1 := if_neg hl
            have e5 : s9.1 5 8 = nI (q - (lsF t V R need p (t.g (V p) :: T)).length) := by rw [f0]; exact if_neg hl
            obtain ⟨s', e2, g0, g1, g2, g3, g4⟩ := ihr (p + 1) n s9 (q - (lsF t V R need p (t.g (V p) :: T)).length) (by omega) (by omega) (by omega) (hw6.same5 (fun x hx h5 => f1 x (by omega) h5) f2) (hr6.same (f1 _ (by omega) (by omega))) e5
            refine ⟨s', ?_, ?_, fun x hx h5 => ?_, fun j hj => ?_, fun x hx => ?_, ?_⟩
            · rw [e4, if_pos rfl, nI_1, atI_right (by rw [List.length_map]; omega), List.length_map]
              exact e2
            · rw [lfI_right (by rw [List.length_map]; omega), List.length_map]
              exact g0
            · rw [g1 x hx h5, f1 x (by omega) h5, h2 x (by omega)]
            · rw [g2 j hj, f2 j hj, h2 5 (by omega)]
            · rw [g3 x hx, f3 x hx, h2 x (by omega)]
            · rw [g4, f4, h3]
    rw [f_X0_find]
    simp (disch := omega) only [gI, hw.2.2.1, nI_ltI, if_pos, lI, pk_sub]
    rw [show z - k = need + 1 by omega, nI_pred]
    by_cases hnb : need ≤ below
    · obtain ⟨s', e1, h1, h2, h3, h4, h5⟩ := go (below - need) need N σ q (by omega) (by omega) hq hw hr h8
      have e2 := rsF_eq (t := t) (V := V) (R := R) (need := need) (T := T) (below - need) need
      rw [lsF_few (show need < need + 1 by omega), List.nil_append, show need + (below - need) = below by omega] at e2
      rw [e2]
      exact ⟨s', e1, h1, h2, h3, h4, h5⟩
    · refine ⟨σ, ?_, ?_, fun p _ _ => rfl, fun j _ => rfl, fun p _ => rfl, rfl⟩
      · rw [lsF_few (by omega)]
        obtain ⟨n, rfl⟩ : ∃ e, N = e + 1 := ⟨N - 1, by omega⟩
        rw [fl_X0_find_40]
        simp (disch := omega) only [nI_leI, if_pos]
        rfl
      · rw [lsF_few (by omega), h8]; rfl
theorem Vd_mem {ok : Ed → List Ed → Bool} : ∀ (S T : List Ed), Vd ok T S = true → ∀ e ∈ S, ∃ T', ok e T' = true
  | [], _, _, e, he => nomatch he
  | x :: S, T, h, e, he => by
    unfold Vd at h
    rw [Bool.and_eq_true] at h
    rcases List.mem_cons.mp he with rfl | he
    · exact ⟨T, h.1⟩
    · exact Vd_mem S (x :: T) h.2 e he
theorem Vd_ring {R : Nat} {S T : List Ed} {e : Ed} (he : e ∈ S) (hr : e.1 = e.2.1) (h7 : e.1 < 7) : ¬ Vd (okR R) T S = true := fun h => by
  obtain ⟨T', h'⟩ := Vd_mem S T h e he
  unfold okR at h'
  rw [Bool.and_eq_true, Bool.not_eq_true', ← hr, cs_bit.mpr ⟨h7, Cn.rfl'⟩] at h'
  exact absurd h'.1 (by decide)
/-- whether a set of wires is a tree of all the nodes -/
noncomputable def trB (t : Nt) (S : Nat) : Bool := @decide (Ac (ls t S) ∧ pc t.nd = pc S + 1) (Classical.propDecidable _)
theorem trB_iff {S : Nat} : trB t S = true ↔ (Ac (ls t S) ∧ pc t.nd = pc S + 1) := by
  unfold trB
  exact @decide_eq_true_iff _ (Classical.propDecidable _)
/-- the trees, by rising numbers -/
noncomputable def trL (t : Nt) : List Nat := (inits t.wr 20 ++ [t.wr]).filter (trB t)
theorem trL_lsF (i : IN t) {l : Nat} (hl : l < 7) (h1 : 1 ≤ pc t.nd) : lsF t (fun j => (pick t.Q 20).getD j 0) (2 ^ l) (pc t.nd - 1) (pick t.Q 20).length [] = trL t := by
  have hw20 := i.wr20
  have hlow : low2 t.wr 20 = t.wr := Nat.mod_eq_of_lt (by omega)
  have e1 := subP_inits (t := t) (W := t.wr) 20
  rw [hlow] at e1
  unfold lsF trL
  rw [enV_pick, ← e1, List.filter_map, ← subP_drop (q := t.P) 20]
  · refine congrArg (List.map Prod.fst) (List.filter_congr (fun x hx => ?_))
    obtain ⟨h2, h3, h4⟩ := subP_in (show x ∈ subP t (fun w => t.wr.testBit w) 20 from hx)
    have h5 := h4 20 (Nat.le_refl _)
    have hlen : x.2.length = pc x.1 := by rw [h5]; exact lst_len 20
    have hS7 : ∀ e ∈ x.2, e.2.1 < 7 := fun e he => by
      rw [h5] at he
      obtain ⟨w, _, _, rfl⟩ := lst_mem he
      exact i.sb w
    apply Bool.eq_iff_iff.mpr
    show gdF (2 ^ l) (pc t.nd - 1) [] x = true ↔ trB t x.1 = true
    unfold gdF
    rw [trB_iff, Bool.and_eq_true, decide_eq_true_eq, Vd_ok hS7, hlen, h5]
    constructor
    · rintro ⟨q1, q2, -⟩
      exact ⟨q2, by omega⟩
    · rintro ⟨q1, q2⟩
      exact ⟨by omega, q1, PD_one⟩
  · intro j _ hj
    unfold Nt.Q at hj; rw [Bool.and_eq_true] at hj; exact hj.1
  · intro j _ hq hp x hx
    have hr : (t.g j).1 = (t.g j).2.1 := by
      unfold Nt.Q at hp
      have hq' : t.wr.testBit j = true := hq
      rw [hq', Bool.true_and, Bool.not_eq_false', beq_iff_eq] at hp
      exact hp
    -- a set with a ring is none
    unfold gdF
    cases hv : Vd (okR (2 ^ l)) [] x.2
    · rw [Bool.and_false]
    · exact absurd hv (Vd_ring hx hr (i.fb j))
end find
