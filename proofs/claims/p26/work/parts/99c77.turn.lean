/-! THE LAW'S TURNS. -/
section turn
variable {N L : Nat} {xs : Nat → Int32} {γ ν : Wd} {mk x15 v1 v2 : Int32} {t : Nt} {J : Int32 → Int32 → Wd → Wd → Option Unit}
/-- what a turn's kind comes to -/
def TK (N : Nat) (γ ν : Wd) (mk : Int32) (t : Nt) (f : Option Unit) (J : Int32 → Int32 → Wd → Wd → Option Unit) : Prop := ∃ mk' γ' ν' t', f = J mk' 1 γ' ν' ∧ RT N γ' ν' mk' t' False ∧ (t.ed ≠ 0 → t'.ed ≠ 0)
theorem or_ne {A k : Nat} : A ||| 2 ^ k ≠ 0 := fun z => by
  have : (A ||| 2 ^ k).testBit k = true := or_bit.mpr (Or.inr rfl)
  rw [z, Nat.zero_testBit] at this; exact absurd this (by decide)
/-- a node comes -/
theorem k_node1 (h : RT N γ ν mk t True) (hn : t.nN < 7) (b : Bool) : ∃ s1 s', (bS (f_L_node N γ (bI b)) fun v30 s31 => rI ν 0 6 0 fun v32 => jn (fun (v33 : Int32) => ((rI ν 0 6 1 fun v34 => rI ν 0 6 0 fun v35 => aI ν 0 6 1 (v34 ||| (1 <<< (v35 &&& 31))) fun s36 => jn (fun (v37 : Int32) => ((aI s36 0 6 2 v37 fun s38 => rI s38 0 6 0 fun v39 => aI s38 9 7 v39 0 fun s40 => rI s40 0 6 0 fun v41 => aI s40 0 6 0 (v41 + 1) fun s42 => aI s42 0 6 5 0 fun s43 => J mk v33 s31 s43) : Option (Unit))) fun j314 => if (bI b) = 0 then (rI s36 0 6 2 fun v44 => rI s36 0 6 0 fun v45 => j314 (v44 &&& ((1 <<< (v45 &&& 31)) ^^^ (-1)))) else (rI s36 0 6 2 fun v46 => rI s36 0 6 0 fun v47 => j314 (v46 ||| (1 <<< (v47 &&& 31))))) : Option (Unit))) fun j271 => if v30 = v32 then (j271 1) else (j271 0)) = J mk 1 s1 s' ∧ RT N s1 s' mk (t.addN b) False := by
  obtain ⟨s1, e1, rt⟩ := l_node (N := N) h hn b
  have q := h.2.1
  have i := h.2.2.1
  refine ⟨s1, _, ?_, rt⟩
  have z0' : ∀ {ρ : Type} (σ : Wd) (K : Int32 → Option ρ), rI σ 0 6 0 K = K (σ.1 0 0) := fun σ K => rI_n (j := 0) (by omega) (by omega)
  have z2' : ∀ {ρ : Type} (σ : Wd) (K : Int32 → Option ρ), rI σ 0 6 2 K = K (σ.1 0 2) := fun σ K => rI_n (j := 2) (by omega) (by omega)
  have a0' : ∀ {ρ : Type} (σ : Wd) (v : Int32) (K : Wd → Option ρ), aI σ 0 6 0 v K = K (sI σ 0 0 v) := fun σ v K => aI_n (j := 0) (by omega) (by omega)
  have a2' : ∀ {ρ : Type} (σ : Wd) (v : Int32) (K : Wd → Option ρ), aI σ 0 6 2 v K = K (sI σ 0 2 v) := fun σ v K => aI_n (j := 2) (by omega) (by omega)
  have a5' : ∀ {ρ : Type} (σ : Wd) (v : Int32) (K : Wd → Option ρ), aI σ 0 6 5 v K = K (sI σ 0 5 v) := fun σ v K => aI_n (j := 5) (by omega) (by omega)
  rw [e1, bS_s, rg_0 q]
  simp only [jn_p, if_true]
  rw [rg_1 q, rg_0 q, c_shl (by omega), fa_or, aI_1 (by omega) (by omega)]
  have tl : ∀ E : Int32, (aI (sI ν 0 1 (nI (t.nd ||| 2 ^ t.nN))) 0 6 2 E fun s38 => rI s38 0 6 0 fun v39 => aI s38 9 7 v39 0 fun s40 => rI s40 0 6 0 fun v41 => aI s40 0 6 0 (v41 + 1) fun s42 => aI s42 0 6 5 0 fun s43 => J mk 1 s1 s43) = J mk 1 s1 (sI (sI (sI (sI (sI ν 0 1 (nI (t.nd ||| 2 ^ t.nN))) 0 2 E) 9 t.nN 0) 0 0 (nI (t.nN + 1))) 0 5 0) := fun E => by
    rw [a2', z0', sI_slot (by omega), sI_slot (by omega), q.nN, aI_n (by omega) (by omega), z0', sI_place (by omega), sI_slot (by omega), sI_slot (by omega), q.nN, a0', a5', nI_1]
  cases b
  · rw [if_pos (show bI false = 0 from rfl), z2', z0', sI_slot (by omega), sI_slot (by omega), q.ed, q.nN, c_shl (by omega), mn_c, mn_id i.ed]
    exact tl _
  · rw [if_neg (show ¬ bI true = 0 by decide), z2', z0', sI_slot (by omega), sI_slot (by omega), q.ed, q.nN, c_shl (by omega), fa_or]
    exact tl _
theorem k_node (h : RT N γ ν mk t True) (h0 : x15 = 0 → t.nN < 6) : ∃ mk' γ' ν' t', tnN N L xs mk x15 v1 v2 γ ν J = J mk' 1 γ' ν' ∧ RT N γ' ν' mk' t' False ∧ ((t.ed ≠ 0 ∨ x15 = 0) → t'.ed ≠ 0) := by
  have q := h.2.1
  have i := h.2.2.1
  have hn := i.nN
  have stay : (x15 = 0 → False) → ∃ mk' γ' ν' t', J mk 1 γ ν = J mk' 1 γ' ν' ∧ RT N γ' ν' mk' t' False ∧ ((t.ed ≠ 0 ∨ x15 = 0) → t'.ed ≠ 0) := fun hx => ⟨mk, γ, ν, t, rfl, h.weak, fun z => z.resolve_right hx⟩
  unfold tnN
  rw [rg_0 q]
  by_cases h7 : t.nN = 7
  · rw [if_pos (by rw [h7]; rfl)]
    exact stay (fun z => by have := h0 z; omega)
  · rw [if_neg (show ¬ nI t.nN = 7 from fun z => h7 ((nI_eq (b := 7) (by omega) (by omega)).mp z)), rg_0 q]
    have h6 : t.nN < 7 := by omega
    obtain ⟨s1, s1', e1, r1⟩ := k_node1 (N := N) (J := J) h h6 true
    obtain ⟨s0, s0', e0, r0⟩ := k_node1 (N := N) (J := J) h h6 false
    have yes : ∀ {f : Option Unit}, f = J mk 1 s1 s1' → ∃ mk' γ' ν' t', f = J mk' 1 γ' ν' ∧ RT N γ' ν' mk' t' False ∧ ((t.ed ≠ 0 ∨ x15 = 0) → t'.ed ≠ 0) := fun hf => ⟨mk, s1, s1', t.addN true, hf, r1, fun _ => or_ne⟩
    have no : ∀ {f : Option Unit}, (x15 = 0 → False) → f = J mk 1 s0 s0' → ∃ mk' γ' ν' t', f = J mk' 1 γ' ν' ∧ RT N γ' ν' mk' t' False ∧ ((t.ed ≠ 0 ∨ x15 = 0) → t'.ed ≠ 0) := fun hx hf => ⟨mk, s0, s0', t.addN false, hf, r0, fun z => z.resolve_right hx⟩
    have mid : ∃ mk' γ' ν' t', (if x15 = 0 then J mk 1 s1 s1' else (if x15 = 3 then J mk 1 s1 s1' else (if x15 ≤ 3 then J mk 1 s0 s0' else (if (v2 &&& 2) = 2 then J mk 1 s1 s1' else J mk 1 s0 s0')))) = J mk' 1 γ' ν' ∧ RT N γ' ν' mk' t' False ∧ ((t.ed ≠ 0 ∨ x15 = 0) → t'.ed ≠ 0) := by
      by_cases c1 : x15 = 0
      · rw [if_pos c1]; exact yes rfl
      · rw [if_neg c1]
        by_cases c2 : x15 = 3
        · rw [if_pos c2]; exact yes rfl
        · rw [if_neg c2]
          by_cases c3 : x15 ≤ 3
          · rw [if_pos c3]; exact no c1 rfl
          · rw [if_neg c3]
            by_cases c4 : (v2 &&& 2) = 2
            · rw [if_pos c4]; exact yes rfl
            · rw [if_neg c4]; exact no c1 rfl
    have e1' := e1
    have e0' := e0
    rw [show bI true = 1 from rfl] at e1'
    rw [show bI false = 0 from rfl] at e0'
    simp only [jn_p] at e1' e0' ⊢
    rw [e1', e0']
    by_cases c6 : t.nN = 6
    · rw [if_pos (show nI t.nN = 6 by rw [c6]; rfl)]
      by_cases c40 : 40 ≤ x15
      · rw [if_pos c40]; exact mid
      · rw [if_neg c40]
        exact stay (fun z => by have := h0 z; omega)
    · rw [if_neg (show ¬ nI t.nN = 6 from fun z => c6 ((nI_eq (b := 6) (by omega) (by omega)).mp z))]
      exact mid
/-- the wires there are counted -/
theorem s432 {ρ : Type} {K : Int32 → Option ρ} {x16 x21 x22 x23 x24 : Int32} (q : RQ ν t) (i : IN t) : ∀ d k n, k + d = 20 → d < n → fl_L_law_432 N L xs γ ν mk x15 x16 x21 x22 x23 x24 K n (nI (fb_ct (fun k => t.wr.testBit k) k)) (nI k) = K (nI (pc t.wr)) := by
  have h20 := i.wr20
  intro d
  induction d with
  | zero =>
    intro k n hk hn
    obtain ⟨n, rfl⟩ : ∃ m, n = m + 1 := ⟨n - 1, by omega⟩
    rw [fl_L_law_432, show k = 20 by omega, lq20, if_pos (nI_le (Nat.le_refl _) (by omega))]
    rfl
  | succ d ih =>
    intro k n hk hn
    obtain ⟨n, rfl⟩ : ∃ m, n = m + 1 := ⟨n - 1, by omega⟩
    rw [fl_L_law_432, lq20, if_neg (nI_ge (by omega) (by omega)), rg_4 q, c_in (by omega) (by omega), ← nI_bN, nI_add, nI_1]
    simp only [lI]
    have := ih (k + 1) n (by omega) (by omega)
    rw [fb_ct_succ] at this
    exact this
theorem k_wire1 (h : RT N γ ν mk t True) (hN : 100 ≤ N) {a b c : Nat} (ha : a < 7) (hb : b < 7) (hc : 1 ≤ c ∧ c ≤ 60) : TK N γ ν mk t (rI ν 0 6 1 fun v51 => jn (fun (v52 : Int32) => ((fl_L_law_432 N L xs γ ν mk x15 v1 (nI a) (nI b) (nI c) v52 (fun v55 => jn (fun (v56 : Int32) => ((bS (f_L_wire N γ (nI a) (nI b) (nI c)) fun v57 s58 => jn (fun (v59 : Int32) => ((jn (fun (v60 : Int32) => ((if v56 = 0 then (J mk v60 s58 ν) else (bS (f_L_adds N ν (nI a) (nI b) (nI c)) fun v61 s62 => aI s62 0 6 5 0 fun s63 => J mk v60 s58 s63)) : Option (Unit))) fun j528 => if v57 = v59 then (j528 1) else (j528 0)) : Option (Unit))) fun j520 => if v52 = 0 then (j520 (-7100)) else (if v56 = 0 then (j520 (-7300)) else (rI ν 0 6 3 fun v64 => j520 v64))) : Option (Unit))) fun j483 => jn (fun (_u : Unit) => ((j483 0) : Option (Unit))) fun j482 => if v52 = 0 then (j482 ()) else (rI ν 0 6 3 fun v65 => if 20 ≤ v65 then (j482 ()) else (if 12 ≤ v55 then (j482 ()) else (j483 1)))) N 0 0) : Option (Unit))) fun j424 => jn (fun (_u : Unit) => ((j424 0) : Option (Unit))) fun j423 => if ((v51 >>> ((nI a) &&& 31)) &&& 1) = 1 then (rI ν 0 6 1 fun v66 => if ((v66 >>> ((nI b) &&& 31)) &&& 1) = 1 then (j424 1) else (j423 ())) else (j423 ())) J := by
  have q := h.2.1
  have i := h.2.2.1
  have h7 := i.nd7
  have hW := i.nW
  have hp := i.few
  have e432 : ∀ (v52 : Int32) (K : Int32 → Option Unit), fl_L_law_432 N L xs γ ν mk x15 v1 (nI a) (nI b) (nI c) v52 K N 0 0 = K (nI (pc t.wr)) := fun v52 K => s432 (N := N) (L := L) (xs := xs) (γ := γ) (mk := mk) (x15 := x15) (K := K) q i 20 0 N (by omega) (by omega)
  simp only [jn_p, e432, if_true]
  rw [rg_1 q, c_in (by omega) (by omega), if_bI1]
  have no : (t.nd.testBit a && t.nd.testBit b) = false → TK N γ ν mk t (bS (f_L_wire N γ (nI a) (nI b) (nI c)) fun v57 s58 => if v57 = -7100 then (J mk 1 s58 ν) else (J mk 0 s58 ν)) J := fun hno => by
    refine ⟨mk, γ, ν, t, ?_, h.weak, id⟩
    rw [l_wire_no h ha hb hno, bS_s, if_pos rfl]
  rcases Bool.eq_false_or_eq_true (t.nd.testBit a) with ha' | ha'
  · rw [if_pos ha', rg_1 q, c_in (by omega) (by omega), if_bI1]
    rcases Bool.eq_false_or_eq_true (t.nd.testBit b) with hb' | hb'
    · rw [if_pos hb', if_neg (by decide), rg_3 q]
      rcases l_wire (N := N) h ha' hb' hc with ⟨hno, e1⟩ | ⟨hyes, s1, e1, rt⟩
      · have no3 : TK N γ ν mk t (bS (f_L_wire N γ (nI a) (nI b) (nI c)) fun v57 s58 => if v57 = -7300 then (J mk 1 s58 ν) else (J mk 0 s58 ν)) J := by
          refine ⟨mk, γ, ν, t, ?_, h.weak, id⟩
          rw [e1, bS_s, if_pos rfl]
        by_cases c20 : t.nW < 20
        · rw [if_neg (show ¬ (20 : Int32) ≤ nI t.nW from nI_ge (b := 20) c20 (by omega)), if_pos (show (12 : Int32) ≤ nI (pc t.wr) from nI_le (a := 12) (by omega) (by omega))]
          exact no3
        · rw [if_pos (show (20 : Int32) ≤ nI t.nW from nI_le (a := 20) (by omega) (by omega))]
          exact no3
      · obtain ⟨s2, e2, r2, f2⟩ := v_adds (N := N) q hyes.1 a b c
        refine ⟨mk, s1, sI s2 0 5 0, t.addW a b c, ?_, rt s2 r2 f2, id⟩
        rw [if_neg (show ¬ (20 : Int32) ≤ nI t.nW from nI_ge (b := 20) hyes.1 (by omega)), if_neg (show ¬ (12 : Int32) ≤ nI (pc t.wr) from nI_ge (b := 12) hyes.2 (by omega)), e1, bS_s, if_neg (by decide), rg_3 q, if_pos rfl, if_neg (by decide), e2, bS_s]
        show (aI s2 0 6 (nI 5) 0 fun s63 => J mk 1 s1 s63) = _
        rw [aI_n (by omega) (by omega)]
    · rw [if_neg (by rw [hb']; decide)]
      exact no (by rw [hb']; simp)
  · rw [if_neg (by rw [ha']; decide)]
    exact no (by rw [ha']; rfl)
theorem k_wire (h : RT N γ ν mk t True) (hN : 100 ≤ N) : TK N γ ν mk t (tnW N L xs mk x15 v1 v2 γ ν J) J := by
  obtain ⟨a, ha, ea⟩ := v_low (N := N) v2 (n := 7) (by omega) (by omega)
  obtain ⟨b, hb, eb⟩ := v_low (N := N) (v2 >>> (5 &&& 31)) (n := 7) (by omega) (by omega)
  obtain ⟨c, hc, ec⟩ := v_low (N := N) (v2 >>> (9 &&& 31)) (n := 60) (by omega) (by omega)
  obtain ⟨d, hd, ed⟩ := v_low (N := N) (v2 >>> (9 &&& 31)) (n := 6) (by omega) (by omega)
  unfold tnW
  rw [lq7, ea, bP_s, eb, bP_s, lq60, ec, lq6, ed, jn_p]
  by_cases c8 : (v2 &&& 8) = 0
  · rw [if_pos c8, bP_s, lq1, nI_add]
    exact k_wire1 (N := N) h hN ha hb ⟨by omega, by omega⟩
  · rw [if_neg c8, bP_s, lq2, pk_mul, nI_add]
    exact k_wire1 (N := N) h hN ha hb ⟨by omega, by omega⟩
theorem aI7 {ρ : Type} {σ : Wd} {q j : Nat} {v : Int32} {K : Wd → Option ρ} (h : j < 7) : aI σ q 7 (nI j) v K = K (sI σ q j v) := aI_n h (by omega)
theorem rI7 {ρ : Type} {σ : Wd} {q j : Nat} {K : Int32 → Option ρ} (h : j < 7) : rI σ q 7 (nI j) K = K (σ.1 q j) := rI_n h (by omega)
theorem k_value (h : RT N γ ν mk t True) : TK N γ ν mk t (tnV N L xs mk x15 v1 v2 γ ν J) J := by
  have q := h.2.1
  have i := h.2.2.1
  have h7 := i.ed7
  obtain ⟨e, he, ee⟩ := v_low (N := N) v2 (n := 7) (by omega) (by omega)
  obtain ⟨y, hy, ey⟩ := v_low (N := N) (v2 >>> (4 &&& 31)) (n := 199) (by omega) (by omega)
  have hv : (nI y - 99).toInt = (y : Int) - 99 := pk_sub_toInt (b := 99) (by omega) (by omega)
  unfold tnV
  rw [lq7, ee, bP_s, rg_1 q, rg_2 q, fa_and, nd_and i, show (199 : Int32) = nI 199 from rfl, ey]
  simp only [jn_p, bP_s]
  rcases Bool.eq_false_or_eq_true (t.ed.testBit e) with hb | hb
  · rw [if_neg (fun z => by rw [(and_bit (by omega) (by omega)).mp z] at hb; exact absurd hb (by decide))]
    obtain ⟨e1, rt⟩ := l_value (N := N) h hb (y := nI y - 99) (by omega) (by omega)
    refine ⟨mk, _, _, t, ?_, rt.weak, id⟩
    rw [e1, bS_s, if_neg (by decide), if_pos rfl, if_neg (by decide), aI7 he]
  · rw [if_pos ((and_bit (by omega) (by omega)).mpr hb)]
    refine ⟨mk, γ, ν, t, ?_, h.weak, id⟩
    rw [l_value_no (N := N) h he hb, bS_s]
    simp only [if_true]
    rw [rI7 he, aI7 he, sI_id rfl]
theorem k_simplify (h : RT N γ ν mk t True) (hN : 100 ≤ N) : TK N γ ν mk t (tnS N L xs mk x15 v1 v2 γ ν J) J := by
  obtain ⟨v, s1, ν', t', s2, e1, e2, e3, rt, hed⟩ := l_simplify (N := N) (L := L) (xs := xs) h hN
  have rw' : f_X7_wires N s2 = some (nI t'.wr) := by simp only [f_X7_wires, gI, rt.1.wr]
  refine ⟨mk, s2, ν', t', ?_, rt.weak, fun z => by rw [hed]; exact z⟩
  unfold tnS
  rw [e1, bS_s, e2]
  simp only [jn_p, if_true]
  rw [e3, bS_s, if_pos rfl, rw', bP_s, rg_4 rt.2.1, if_pos rfl]
theorem k_undo (h : RT N γ ν mk t True) (hN : 100 ≤ N) : TK N γ ν mk t (tnU N L xs mk x15 v1 v2 γ ν J) J := by
  obtain ⟨s, s', t', e, rt, hed⟩ := l_undo (N := N) (L := L) (xs := xs) (x15 := x15) (v1 := v1) (v2 := v2) h hN J
  exact ⟨mk, s, s', t', e, rt, fun z => by rw [hed]; exact z⟩
theorem k_mark (h : RT N γ ν mk t True) (hN : 200 ≤ N) (he : t.ed ≠ 0) : TK N γ ν mk t (tnM N L xs mk x15 v1 v2 γ ν J) J := by
  obtain ⟨s, s', e, rt⟩ := l_mark (N := N) (L := L) (xs := xs) (x15 := x15) (x16 := v1) (v2 := v2) h hN he J
  exact ⟨_, s, s', t, e, rt.weak, id⟩
/-- moves of a kind, until one is done -/
theorem s1119 {K : Int32 → Wd → Wd → Option Unit} (hN : 100 ≤ N) {k : Nat} (hk : k ≤ 5) : ∀ d j n (γ ν : Wd) (t : Nt), j + d = 20 → d < n → RT N γ ν mk t True →
    ∃ γ' ν' t', fl_L_law_1119 N L xs mk x15 v1 v2 (nI k) K n 1 0 (nI j) γ ν = K 1 γ' ν' ∧ RT N γ' ν' mk t' True ∧ t'.ed = t.ed := by
  intro d
  induction d with
  | zero =>
    intro j n γ ν t hj hn h
    obtain ⟨n, rfl⟩ : ∃ m, n = m + 1 := ⟨n - 1, by omega⟩
    refine ⟨γ, ν, t, ?_, h, rfl⟩
    rw [fl_L_law_1119, lq20, if_pos (nI_le (by omega) (by omega))]
  | succ d ih =>
    intro j n γ ν t hj hn h
    obtain ⟨n, rfl⟩ : ∃ m, n = m + 1 := ⟨n - 1, by omega⟩
    have q := h.2.1
    have i := h.2.2.1
    obtain ⟨y, hy, ey⟩ := v_low (N := N) (v2 >>> (4 &&& 31)) (n := 20) (by omega) (by omega)
    have hw : (j + y) % 20 < 20 := Nat.mod_lt _ (by omega)
    rw [fl_L_law_1119, lq20, if_neg (nI_ge (by omega) (by omega)), ck_s (by omega), if_pos rfl, ey, bP_s, nI_add, mIn (by omega) (by omega) (by omega), v_isThere q i hk (by omega), bP_s]
    generalize (j + y) % 20 = w at hw ⊢
    have eb : (if (k == 0 || k == 1 || k == 5) = true then t.wr.testBit w else t.nd.testBit w) = thB k t w := rfl
    rw [eb]
    simp only [jn_p]
    rw [nI_1, if_bI0]
    -- behind whether there is one
    have fin0 : thB k t w = false → ∃ γ' ν' t', (bS (f_L_move N γ (nI k) (nI w)) fun v210 s211 => if v210 = -7100 then (lI ((1 : Int32) &&& 1) fun v214 => if (0 : Int32) = 0 then (fl_L_law_1119 N L xs mk x15 v1 v2 (nI k) K n v214 0 (nI (j + 1)) s211 ν) else (rI ν 0 6 5 fun v216 => aI ν 0 6 5 (v216 + 1) fun s217 => aI s217 8 40 v216 ((32 * (nI k)) + nI w) fun s218 => fl_L_law_1119 N L xs mk x15 v1 v2 (nI k) K n v214 0 (nI (j + 1)) s211 s218)) else (lI ((1 : Int32) &&& 0) fun v214 => if (0 : Int32) = 0 then (fl_L_law_1119 N L xs mk x15 v1 v2 (nI k) K n v214 0 (nI (j + 1)) s211 ν) else (rI ν 0 6 5 fun v216 => aI ν 0 6 5 (v216 + 1) fun s217 => aI s217 8 40 v216 ((32 * (nI k)) + nI w) fun s218 => fl_L_law_1119 N L xs mk x15 v1 v2 (nI k) K n v214 0 (nI (j + 1)) s211 s218))) = K 1 γ' ν' ∧ RT N γ' ν' mk t' True ∧ t'.ed = t.ed := fun hb => by
      rcases l_move (N := N) h hN hk hw with ⟨-, e1⟩ | ⟨hb', -⟩
      · rw [e1, bS_s, if_pos rfl]
        simp only [lI, if_true]
        rw [show (1 : Int32) &&& 1 = 1 by decide]
        exact ih (j + 1) n γ ν t (by omega) (by omega) h
      · rw [hb] at hb'; exact absurd hb' (by decide)
    cases hb : thB k t w
    · rw [if_neg (by decide)]
      simp only [if_true]
      exact fin0 hb
    · rw [if_pos rfl]
      -- there is one
      have kw : nI k < 2 ∨ nI k = 5 ∨ ¬ 7 ≤ nI w := by
        rcases (show k < 2 ∨ k = 5 ∨ (2 ≤ k ∧ k ≤ 4) by omega) with z | z | z
        · exact Or.inl (nI_lt (b := 2) z (by omega))
        · exact Or.inr (Or.inl (by rw [z]; rfl))
        · refine Or.inr (Or.inr ?_)
          have : thB k t w = t.nd.testBit w := by
            unfold thB
            rw [if_neg (by rcases (show k = 2 ∨ k = 3 ∨ k = 4 by omega) with rfl | rfl | rfl <;> decide)]
          rw [this] at hb
          exact nI_ge (b := 7) (bit7 i.nd7 hb) (by omega)
      have e5 : ∀ X Y : Option Unit, (if nI k < 2 then X else (if nI k = 5 then X else (if 7 ≤ nI w then Y else X))) = X := fun X Y => by
        by_cases z1 : nI k < 2
        · rw [if_pos z1]
        · rw [if_neg z1]
          by_cases z2 : nI k = 5
          · rw [if_pos z2]
          · rw [if_neg z2, if_neg (by rcases kw with z | z | z; exact absurd z z1; exact absurd z z2; exact z)]
      rw [e5, if_neg (by decide)]
      rcases l_move (N := N) h hN hk hw with ⟨hb', -⟩ | ⟨-, ⟨d1, s1, e1, rt⟩ | ⟨M, s1, ν', m, m18, e1, d1, e3, rt⟩⟩
      · rw [hb] at hb'; exact absurd hb' (by decide)
      · rw [d1, bS_s, if_pos rfl, e1]
        simp only [bS_s, lI, if_true]
        rw [show (1 : Int32) &&& 1 = 1 by decide]
        exact ih (j + 1) n s1 ν t (by omega) (by omega) rt
      · rw [d1, bS_s, if_neg (by decide), e1]
        simp only [bS_s, lI, if_true]
        simp only [show ¬ (1 : Int32) = 0 by decide, if_false]
        rw [show (1 : Int32) &&& 1 = 1 by decide]
        refine ⟨s1, _, t.app M, ?_, rt, app_ed _ _⟩
        rw [show (5 : Int32) = nI 5 from rfl, rI_n (by omega) (by omega), e3, aI_n (by omega) (by omega), nI_1, show (32 : Int32) = nI 32 from rfl, pk_mul, nI_add, aI_n (by omega) (by omega)]
        obtain ⟨n', rfl⟩ : ∃ m, n = m + 1 := ⟨n - 1, by omega⟩
        rw [fl_L_law_1119]
        by_cases z20 : j + 1 = 20
        · rw [lq20, if_pos (nI_le (by omega) (by omega))]
        · rw [lq20, if_neg (nI_ge (by omega) (by omega))]
          by_cases zn : n' = 0
          · omega
          · rw [ck_s zn, if_neg (by decide)]
theorem k_moves (h : RT N γ ν mk t True) (hN : 100 ≤ N) : TK N γ ν mk t (tnD N L xs mk x15 v1 v2 γ ν J) J := by
  obtain ⟨k, hk, ek⟩ := v_low (N := N) v2 (n := 6) (by omega) (by omega)
  obtain ⟨s, s', t', e, rt, hed⟩ := s1119 (N := N) (L := L) (xs := xs) (x15 := x15) (v1 := v1) (v2 := v2) (K := fun v222 s223 s224 => J mk v222 s223 s224) hN (show k ≤ 5 by omega) 20 0 21 γ ν t (by omega) (by omega) h
  refine ⟨mk, s, s', t', ?_, rt.weak, fun z => by rw [hed]; exact z⟩
  unfold tnD
  rw [lq6, ek, bP_s]
  exact e
end turn
