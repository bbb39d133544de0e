/-! THE LAW'S MOVES: a triangle for a star. -/
theorem btw_sym (t : Nt) (a b w : Nat) : btw t a b w = btw t b a w := by
  unfold btw ends
  rw [Bool.or_comm]
theorem if_pos0 {α : Type} {m : Nat} {x y : α} (h : m < 2 ^ 31) : (if 0 < nI m then x else y) = if m = 0 then y else x := by
  by_cases q : m = 0
  · rw [q, if_neg (by decide), if_pos rfl]
  · rw [if_neg q, if_pos (show 0 < nI m from nI_lt (a := 0) (by omega) h)]
theorem if_60 {α : Type} {m : Nat} {x y : α} (h : m < 2 ^ 31) : (if 60 < nI m then x else y) = if m ≤ 60 then y else x := by
  by_cases q : m ≤ 60
  · rw [if_pos q, if_neg (show ¬ 60 < nI m from nI_nlt (a := 60) q (by omega))]
  · rw [if_neg q, if_pos (show 60 < nI m from nI_lt (a := 60) (by omega) h)]
theorem if_60' {α : Type} {m : Nat} {x y : α} (h : m < 2 ^ 31) : (if nI m ≤ 60 then x else y) = if m ≤ 60 then x else y := by
  by_cases q : m ≤ 60
  · rw [if_pos q, if_pos (show nI m ≤ 60 from nI_le (b := 60) q (by omega))]
  · rw [if_neg q, if_neg (show ¬ nI m ≤ 60 from nI_ge (a := 60) (by omega) h)]
/-- the star comes -/
noncomputable def stG (N : Nat) (ν : Wd) (x0 v13 x5 v16 v23 : Int32) : Option (Int32 × Wd) :=
  rI ν 0 6 4 fun v36 =>
  aI ν 0 6 4 (v36 &&& ((((1 <<< (x0 &&& 31)) ||| (1 <<< (x5 &&& 31))) ||| (1 <<< (v16 &&& 31))) ^^^ (-1))) fun s37 =>
  rI s37 0 6 0 fun v38 =>
  aI s37 0 6 0 (v38 + 1) fun s39 =>
  rI s39 0 6 1 fun v40 =>
  aI s39 0 6 1 (v40 ||| (1 <<< (v38 &&& 31))) fun s41 =>
  rI s41 0 6 2 fun v42 =>
  aI s41 0 6 2 (v42 &&& ((1 <<< (v38 &&& 31)) ^^^ (-1))) fun s43 =>
  rI s43 1 20 x0 fun v44 =>
  rI s43 3 20 v16 fun v45 =>
  dI v23 v45 fun v46 =>
  bS (f_L_adds N s43 v44 v38 v46) fun v47 s48 =>
  rI s48 2 20 x0 fun v49 =>
  rI s48 3 20 x5 fun v50 =>
  dI v23 v50 fun v51 =>
  bS (f_L_adds N s48 v49 v38 v51) fun v52 s53 =>
  rI s53 3 20 x0 fun v54 =>
  dI v23 v54 fun v55 =>
  bS (f_L_adds N s53 v13 v38 v55) fun v56 s57 =>
  some (1, s57)
/-- the first triangle -/
noncomputable def stE (N : Nat) (ν : Wd) (x0 v13 x5 v16 : Int32) : Option (Int32 × Wd) :=
  rI ν 3 20 x0 fun v17 =>
  rI ν 3 20 x5 fun v18 =>
  rI ν 3 20 x0 fun v19 =>
  rI ν 3 20 v16 fun v20 =>
  rI ν 3 20 x5 fun v21 =>
  rI ν 3 20 v16 fun v22 =>
  lI (((v17 * v18) + (v19 * v20)) + (v21 * v22)) fun v23 =>
  rI ν 3 20 x0 fun v24 =>
  mI v23 v24 fun v25 =>
  if 0 < v25 then some (0, ν)
  else
    rI ν 3 20 x5 fun v26 =>
    mI v23 v26 fun v27 =>
    if 0 < v27 then some (0, ν)
    else
      rI ν 3 20 v16 fun v28 =>
      mI v23 v28 fun v29 =>
      if 0 < v29 then some (0, ν)
      else
        rI ν 3 20 x0 fun v30 =>
        dI v23 v30 fun v31 =>
        if 60 < v31 then some (0, ν)
        else
          rI ν 3 20 x5 fun v32 =>
          dI v23 v32 fun v33 =>
          if 60 < v33 then some (0, ν)
          else
            rI ν 3 20 v16 fun v34 =>
            dI v23 v34 fun v35 =>
            if v35 ≤ 60 then stG N ν x0 v13 x5 v16 v23 else some (0, ν)
noncomputable def stJ (N : Nat) (ν : Wd) (x0 v13 x5 v15 : Int32) (j : Option (Int32 × Wd)) : Option (Int32 × Wd) :=
  if v15 = 0 then j else bP (f_L_lowest N v15) fun v16 => stE N ν x0 v13 x5 v16
theorem st30_eq {N : Nat} {ν : Wd} {x0 x5 : Int32} {n : Nat} {K : Unit → Option (Int32 × Wd)} : fl_L_stars_30 N ν x0 K (n + 1) x5 = rI ν 0 6 3 fun v5 => if v5 ≤ x5 then K () else (rI ν 1 20 x0 fun v6 => bP (f_L_wiresOf N ν v6) fun v7 => if ((v7 >>> (x5 &&& 31)) &&& 1) = 0 then fl_L_stars_30 N ν x0 K n (x5 + 1) else (rI ν 1 20 x5 fun v8 => rI ν 2 20 x5 fun v9 => if v8 = v9 then fl_L_stars_30 N ν x0 K n (x5 + 1) else (rI ν 1 20 x5 fun v10 => rI ν 2 20 x5 fun v11 => rI ν 1 20 x0 fun v12 => lI ((v10 + v11) - v12) fun v13 => rI ν 2 20 x0 fun v14 => if v13 = v14 then stJ N ν x0 v13 x5 0 (fl_L_stars_30 N ν x0 K n (x5 + 1)) else (bP (f_L_wiresOf N ν v13) fun v58 => rI ν 2 20 x0 fun v59 => bP (f_L_wiresOf N ν v59) fun v60 => stJ N ν x0 v13 x5 (v58 &&& v60) (fl_L_stars_30 N ν x0 K n (x5 + 1)))))) := by
  rw [fl_L_stars_30]
  rfl
section stars
variable {N : Nat} {ν : Wd} {t : Nt}
theorem st_step (r : RQ ν t) (i : IN t) (hN : 100 ≤ N) {w : Nat} (hw : w < t.nW) (hne : ¬ t.f w = t.s w) {k n : Nat} (hk : k < t.nW) {K : Unit → Option (Int32 × Wd)} :
    fl_L_stars_30 N ν (nI w) K (n + 1) (nI k) = if s2B t (t.f w) (t.s w) k = true then stE N ν (nI w) (nI (t.far k (t.f w))) (nI k) (nI (fsP (btw t (t.s w) (t.far k (t.f w))) 20 0)) else fl_L_stars_30 N ν (nI w) K n (nI (k + 1)) := by
  have hW := i.nW
  have hfk := i.fb k
  have hsk := i.sb k
  have hfw := i.fb w
  have hsw := i.sb w
  have hWA := WA_lt t (t.f w)
  have h7 := far_lt i k (t.f w)
  have hb : (WA t (t.f w)).testBit k = atB t (t.f w) k := by
    apply Bool.eq_iff_iff.mpr
    unfold WA
    rw [stB_bit]
    exact ⟨fun h => h.2, fun h => ⟨by omega, h⟩⟩
  have eS : s2B t (t.f w) (t.s w) k = (!(t.f w == t.s w) && (t.wr.testBit k && ((t.f k == t.f w || t.s k == t.f w) && (!(t.far k (t.f w) == t.f w) && (!(t.far k (t.f w) == t.s w) && jnd t (t.s w) (t.far k (t.f w))))))) := rfl
  have eA : atB t (t.f w) k = (t.wr.testBit k && (t.f k == t.f w || t.s k == t.f w)) := rfl
  rw [st30_eq, rg_3 r, if_neg (nI_ge hk (by omega)), rp_1 r i hw, v_wiresOf r i hN hfw, bP_s, c_in (by omega) (by omega), if_bI0, hb, nI_1]
  cases hat : atB t (t.f w) k
  · rw [if_neg (by decide), if_neg (fun z => by
      rw [eS, ← Bool.and_assoc (t.wr.testBit k), ← eA, hat] at z
      simp at z)]
  · have hat' := hat
    rw [eA, Bool.and_eq_true, Bool.or_eq_true, beq_iff_eq, beq_iff_eq] at hat'
    have hsum := far_sum t hat'.2
    have hge : t.f w ≤ t.f k + t.s k := by rcases hat'.2 with z | z <;> omega
    have q1 : (nI (t.f k) = nI (t.s k)) ↔ t.f k = t.s k := nI_eq (by omega) (by omega)
    have q2 : (nI (t.far k (t.f w)) = nI (t.s w)) ↔ t.far k (t.f w) = t.s w := nI_eq (by omega) (by omega)
    rw [if_pos rfl]
    simp only [rp_1 r i hk, rp_2 r i hk, rp_1 r i hw, rp_2 r i hw, q1]
    rw [nI_add, pk_sub hge, hsum]
    simp only [lI, q2]
    rw [v_wiresOf r i hN h7, bP_s, v_wiresOf r i hN hsw, bP_s, fa_and]
    have hring : t.f k = t.s k ↔ t.far k (t.f w) = t.f w := by
      unfold Nt.far
      by_cases e : t.f k = t.f w
      · rw [if_pos e, e]; exact ⟨fun z => z.symm, fun z => z.symm⟩
      · rw [if_neg e]
        rcases hat'.2 with z | z
        · exact absurd z e
        · rw [z]
    have eS2 : s2B t (t.f w) (t.s w) k = (!(t.far k (t.f w) == t.f w) && (!(t.far k (t.f w) == t.s w) && jnd t (t.s w) (t.far k (t.f w)))) := by
      rw [eS, ← Bool.and_assoc (t.wr.testBit k), ← eA, hat, beq_false_of_ne hne]; rfl
    rw [eS2]
    by_cases e1 : t.far k (t.f w) = t.f w
    · rw [if_pos (hring.mpr e1), if_neg (by rw [beq_iff_eq.mpr e1]; simp)]
    · rw [if_neg (fun z => e1 (hring.mp z))]
      by_cases e2 : t.far k (t.f w) = t.s w
      · rw [if_pos e2, if_neg (by rw [beq_iff_eq.mpr e2]; simp)]
        unfold stJ
        rw [if_pos rfl]
      · have hS : WA t (t.far k (t.f w)) &&& WA t (t.s w) < 2 ^ 20 := Nat.lt_of_le_of_lt Nat.and_le_left (WA_lt t _)
        have hp : ∀ x, x < 20 → (WA t (t.far k (t.f w)) &&& WA t (t.s w)).testBit x = btw t (t.s w) (t.far k (t.f w)) x := fun x hx => by rw [wa_and e2 hx, btw_sym]
        rw [if_neg e2, beq_false_of_ne e1, beq_false_of_ne e2]
        unfold stJ
        have q0 : (nI (WA t (t.far k (t.f w)) &&& WA t (t.s w)) = 0) ↔ WA t (t.far k (t.f w)) &&& WA t (t.s w) = 0 := by
          rw [lq0]; exact nI_eq (by omega) (by omega)
        simp only [q0]
        cases hj : jnd t (t.s w) (t.far k (t.f w))
        · have : ¬ fsP (btw t (t.s w) (t.far k (t.f w))) 20 0 < 20 := fun z => by rw [jnd_fsP.mpr z] at hj; exact absurd hj (by decide)
          rw [if_pos ((set0 hS hp).mpr this), if_neg (by simp)]
        · have hl := jnd_fsP.mp hj
          rw [if_neg (fun z => (set0 hS hp).mp z hl), v_lowestP hN hS hp hl, bP_s, if_pos (by simp)]
theorem st_loop (r : RQ ν t) (i : IN t) (hN : 100 ≤ N) {w : Nat} (hw : w < t.nW) (hne : ¬ t.f w = t.s w) : ∀ d k n, k + d = t.nW → d < n → k ≤ sec t w →
    fl_L_stars_30 N ν (nI w) (fun (_ : Unit) => some (0, ν)) n (nI k) = if sec t w < 20 then stE N ν (nI w) (nI (t.far (sec t w) (t.f w))) (nI (sec t w)) (nI (thd t w)) else some (0, ν) := by
  have hW := i.nW
  obtain ⟨g1, g2, g3, g4⟩ := fsP_spec (s2B t (t.f w) (t.s w)) 20 0
  have hsecW : sec t w < 20 → sec t w < t.nW := fun h => bit_lt i.wr (sec_in h).2.1
  intro d
  induction d with
  | zero =>
    intro k n hk hn hks
    obtain ⟨n, rfl⟩ : ∃ m, n = m + 1 := ⟨n - 1, by omega⟩
    rw [st30_eq, rg_3 r, if_pos (nI_le (by omega) (by omega)), if_neg (fun z => by have := hsecW z; omega)]
  | succ d ih =>
    intro k n hk hn hks
    obtain ⟨n, rfl⟩ : ∃ m, n = m + 1 := ⟨n - 1, by omega⟩
    rw [st_step r i hN hw hne (by omega)]
    by_cases e : k = sec t w
    · have hs20 : sec t w < 20 := by omega
      have hp : s2B t (t.f w) (t.s w) (sec t w) = true := g4 (by show sec t w < 0 + 20; omega)
      rw [e, if_pos hp, if_pos hs20]
      rfl
    · rw [if_neg (by rw [g3 k (Nat.zero_le _) (show k < sec t w by omega)]; decide)]
      exact ih (k + 1) n (by omega) (by omega) (by omega)
theorem v_stG (r : RQ ν t) (i : IN t) {w x y z p : Nat} (hw : w < t.nW) (hx : x < t.nW) (hy : y < t.nW) (cw : 1 ≤ t.c w ∧ t.c w ≤ 60) (cx : 1 ≤ t.c x ∧ t.c x ≤ 60) (cy : 1 ≤ t.c y ∧ t.c y ≤ 60) (hp : p < 2 ^ 31) (hn : t.nN < 7) (hroom : t.nW + 3 ≤ 20) :
    ∃ ν', stG N ν (nI w) (nI z) (nI x) (nI y) (nI p) = some (1, ν') ∧ RQ ν' (t.app (Mv.mk 0 ((2 ^ w ||| 2 ^ x) ||| 2 ^ y) none 1 [(t.f w, t.nN, p / t.c y), (t.s w, t.nN, p / t.c x), (z, t.nN, p / t.c w)])) ∧ FrL ν ν' := by
  have hb : t.base (Mv.mk 0 ((2 ^ w ||| 2 ^ x) ||| 2 ^ y) none 1 [(t.f w, t.nN, p / t.c y), (t.s w, t.nN, p / t.c x), (z, t.nN, p / t.c w)]) = (t.cut 0 ((2 ^ w ||| 2 ^ x) ||| 2 ^ y) t.c).addN false := rfl
  have r4 : RQ (sI (sI (sI (sI ν 0 4 (nI (mn t.wr ((2 ^ w ||| 2 ^ x) ||| 2 ^ y)))) 0 0 (nI (t.nN + 1))) 0 1 (nI (t.nd ||| 2 ^ t.nN))) 0 2 (nI t.ed)) ((t.cut 0 ((2 ^ w ||| 2 ^ x) ||| 2 ^ y) t.c).addN false) := by
    refine ⟨?_, ?_, ?_, ?_, ?_, fun w' hw' => ?_, fun w' hw' => ?_, fun w' hw' => ?_⟩
    · simp (disch := omega) only [sI_slot, sI_same]; rfl
    · simp (disch := omega) only [sI_slot, sI_same]
      show nI (t.nd ||| 2 ^ t.nN) = nI (mn t.nd 0 ||| 2 ^ t.nN)
      rw [mn_0]
    · simp (disch := omega) only [sI_same]; rfl
    · simp (disch := omega) only [sI_slot]; exact r.nW
    · simp (disch := omega) only [sI_slot, sI_same]; rfl
    · simp (disch := omega) only [sI_place]; exact r.f w' hw'
    · simp (disch := omega) only [sI_place]; exact r.s w' hw'
    · simp (disch := omega) only [sI_place]; exact r.c w' hw'
  have fr4 : FrL ν (sI (sI (sI (sI ν 0 4 (nI (mn t.wr ((2 ^ w ||| 2 ^ x) ||| 2 ^ y)))) 0 0 (nI (t.nN + 1))) 0 1 (nI (t.nd ||| 2 ^ t.nN))) 0 2 (nI t.ed)) := (((FrL.put (Or.inr ⟨rfl, by omega⟩)).trans (FrL.put (Or.inr ⟨rfl, by omega⟩))).trans (FrL.put (Or.inr ⟨rfl, by omega⟩))).trans (FrL.put (Or.inr ⟨rfl, by omega⟩))
  obtain ⟨ν1, e1, r1, f1⟩ := v_adds (N := N) r4 (show t.nW < 20 by omega) (t.f w) t.nN (p / t.c y)
  obtain ⟨ν2, e2, r2, f2⟩ := v_adds (N := N) r1 (show t.nW + 1 < 20 by omega) (t.s w) t.nN (p / t.c x)
  obtain ⟨ν3, e3, r3, f3⟩ := v_adds (N := N) r2 (show t.nW + 1 + 1 < 20 by omega) z t.nN (p / t.c w)
  refine ⟨ν3, ?_, r3, fr4.trans (f1.trans (f2.trans f3))⟩
  have hs1 : ν1.1 2 w = nI (t.s w) := by
    refine (r1.s w (by show w < t.nW + 1; omega)).trans ?_
    show nI (upN t.s t.nW t.nN w) = _
    rw [upN_o (by omega)]
  have hc1 : ν1.1 3 x = nI (t.c x) := by
    refine (r1.c x (by show x < t.nW + 1; omega)).trans ?_
    show nI (upN t.c t.nW _ x) = _
    rw [upN_o (by omega)]
  have hc2 : ν2.1 3 w = nI (t.c w) := by
    refine (r2.c w (by show w < t.nW + 1 + 1; omega)).trans ?_
    show nI (upN (upN t.c t.nW _) (t.nW + 1) _ w) = _
    rw [upN_o (by omega), upN_o (by omega)]
  unfold stG
  rw [rg_4 r, c_shl (by omega), c_shl (by omega), c_shl (by omega), fa_or, fa_or, mn_c, aI_4 (by omega) (by omega)]
  have z0' : ∀ {ρ : Type} (σ : Wd) (K : Int32 → Option ρ), rI σ 0 6 0 K = K (σ.1 0 0) := fun σ K => rI_n (j := 0) (by omega) (by omega)
  have z1' : ∀ {ρ : Type} (σ : Wd) (K : Int32 → Option ρ), rI σ 0 6 1 K = K (σ.1 0 1) := fun σ K => rI_n (j := 1) (by omega) (by omega)
  have z2' : ∀ {ρ : Type} (σ : Wd) (K : Int32 → Option ρ), rI σ 0 6 2 K = K (σ.1 0 2) := fun σ K => rI_n (j := 2) (by omega) (by omega)
  have a0' : ∀ {ρ : Type} (σ : Wd) (v : Int32) (K : Wd → Option ρ), aI σ 0 6 0 v K = K (sI σ 0 0 v) := fun σ v K => aI_n (j := 0) (by omega) (by omega)
  have a2' : ∀ {ρ : Type} (σ : Wd) (v : Int32) (K : Wd → Option ρ), aI σ 0 6 2 v K = K (sI σ 0 2 v) := fun σ v K => aI_n (j := 2) (by omega) (by omega)
  rw [z0', sI_slot (by omega), r.nN, a0', z1', sI_slot (by omega), sI_slot (by omega), r.nd, aI_1 (by omega) (by omega), z2', sI_slot (by omega), sI_slot (by omega), sI_slot (by omega), r.ed, a2', c_shl (by omega), fa_or, mn_c, mn_id i.ed, nI_1]
  rw [rI_n (by omega) (by omega), sI_place (by omega), sI_place (by omega), sI_place (by omega), sI_place (by omega), r.f w hw]
  rw [rI_n (by omega) (by omega), sI_place (by omega), sI_place (by omega), sI_place (by omega), sI_place (by omega), r.c y hy, dIn hp (by omega) (by omega), e1, bS_s]
  rw [rI_n (by omega) (by omega), hs1, rI_n (by omega) (by omega), hc1, dIn hp (by omega) (by omega), e2, bS_s, rI_n (by omega) (by omega), hc2, dIn hp (by omega) (by omega), e3, bS_s]
theorem whl_prs {u l : Nat} (hl : 1 ≤ l) (hul : l ≤ u) : whl u l = true ↔ u % l = 0 ∧ u / l ≤ 60 := by
  unfold whl
  rw [decide_eq_true_iff]
  have : 1 ≤ u / l := (Nat.le_div_iff_mul_le (by omega)).mpr (by omega)
  exact ⟨fun h => ⟨h.1, h.2.2⟩, fun h => ⟨h.1, this, h.2⟩⟩
theorem ldoes_5 (r : RQ ν t) (i : IN t) (hN : 100 ≤ N) {w : Nat} (hw : t.wr.testBit w = true) : DL N ν t 5 (nI w) (pm t (pl5 t w)) := by
  have hwn := bit_lt i.wr hw
  have hW := i.nW
  have hnN := i.nN
  have hf := i.fb w
  have hs := i.sb w
  have ed : f_L_does N ν 5 (nI w) = bS (f_L_stars N ν (nI w)) fun v51 s52 => zb v51 (some (v51, s52)) := by
    unfold f_L_does
    rw [if_neg (by decide), if_neg (by decide), if_pos rfl]
  have no : f_L_stars N ν (nI w) = some (0, ν) → f_L_does N ν 5 (nI w) = some (0, ν) := fun h => by rw [ed, h, bS_s]; rfl
  have q : (nI (t.f w) = nI (t.s w)) ↔ t.f w = t.s w := nI_eq (by omega) (by omega)
  have es : f_L_stars N ν (nI w) = if t.f w = t.s w then some ((0 : Int32), ν) else if 17 < nI t.nW then some (0, ν) else if nI t.nN ≤ 6 then fl_L_stars_30 N ν (nI w) (fun (_ : Unit) => some (0, ν)) N 0 else some (0, ν) := by
    unfold f_L_stars
    rw [rp_1 r i hwn, rp_2 r i hwn, rg_3 r, rg_0 r]
    simp only [q]
  by_cases hne : t.f w = t.s w
  · rw [if_pos hne] at es
    refine DL.no (no es) ?_
    have : pl5 t w = none := if_neg (fun z => by
      rw [Bool.and_eq_true, decide_eq_true_iff] at z
      exact (sec_in z.1).1 hne)
    rw [this]; rfl
  · rw [if_neg hne] at es
    by_cases hroom : t.nN + 1 ≤ 7 ∧ t.nW + 3 ≤ 20
    · rw [if_neg (show ¬ 17 < nI t.nW from nI_nlt (a := 17) (by omega) (by omega)), if_pos (show nI t.nN ≤ 6 from nI_le (b := 6) (by omega) (by omega))] at es
      have hlp := st_loop (N := N) r i hN hwn hne t.nW 0 N (by omega) (by omega) (Nat.zero_le _)
      have es := es.trans hlp
      by_cases h20 : sec t w < 20
      · rw [if_pos h20] at es
        obtain ⟨b1, b2, b3, b4, b5, b6, b7, b8⟩ := sec_in h20
        have hx := bit_lt i.wr b2
        have hy := bit_lt i.wr b7
        have cw := i.cb w hw
        have cx := i.cb _ b2
        have cy := i.cb _ b7
        have m1 := mul60 cw.2 cx.2
        have m2 := mul60 cw.2 cy.2
        have m3 := mul60 cx.2 cy.2
        have ep : prs t w = t.c w * t.c (sec t w) + t.c w * t.c (thd t w) + t.c (sec t w) * t.c (thd t w) := rfl
        have hpw : t.c w ≤ prs t w := by
          have := Nat.le_mul_of_pos_right (t.c w) (show 0 < t.c (sec t w) by omega)
          omega
        have hpx : t.c (sec t w) ≤ prs t w := by
          have := Nat.le_mul_of_pos_left (t.c (sec t w)) (show 0 < t.c w by omega)
          omega
        have hpy : t.c (thd t w) ≤ prs t w := by
          have := Nat.le_mul_of_pos_left (t.c (thd t w)) (show 0 < t.c w by omega)
          omega
        have hp31 : prs t w < 2 ^ 31 := by omega
        have ww := whl_prs cw.1 hpw
        have wx := whl_prs cx.1 hpx
        have wy := whl_prs cy.1 hpy
        have mw : prs t w % t.c w < 2 ^ 31 := Nat.lt_of_le_of_lt (Nat.mod_le _ _) hp31
        have mx : prs t w % t.c (sec t w) < 2 ^ 31 := Nat.lt_of_le_of_lt (Nat.mod_le _ _) hp31
        have my : prs t w % t.c (thd t w) < 2 ^ 31 := Nat.lt_of_le_of_lt (Nat.mod_le _ _) hp31
        have dw : prs t w / t.c w < 2 ^ 31 := Nat.lt_of_le_of_lt (Nat.div_le_self _ _) hp31
        have dx : prs t w / t.c (sec t w) < 2 ^ 31 := Nat.lt_of_le_of_lt (Nat.div_le_self _ _) hp31
        have dy : prs t w / t.c (thd t w) < 2 ^ 31 := Nat.lt_of_le_of_lt (Nat.div_le_self _ _) hp31
        have eE : stE N ν (nI w) (nI (t.far (sec t w) (t.f w))) (nI (sec t w)) (nI (thd t w)) = if prs t w % t.c w = 0 then (if prs t w % t.c (sec t w) = 0 then (if prs t w % t.c (thd t w) = 0 then (if prs t w / t.c w ≤ 60 then (if prs t w / t.c (sec t w) ≤ 60 then (if prs t w / t.c (thd t w) ≤ 60 then stG N ν (nI w) (nI (t.far (sec t w) (t.f w))) (nI (sec t w)) (nI (thd t w)) (nI (prs t w)) else some ((0 : Int32), ν)) else some (0, ν)) else some (0, ν)) else some (0, ν)) else some (0, ν)) else some (0, ν) := by
          unfold stE
          simp only [rp_3 r i hwn, rp_3 r i hx, rp_3 r i hy, pk_mul, nI_add, lI, ← ep]
          rw [mIn hp31 (by omega) (by omega), if_pos0 mw, mIn hp31 (by omega) (by omega), if_pos0 mx, mIn hp31 (by omega) (by omega), if_pos0 my, dIn hp31 (by omega) (by omega), if_60 dw, dIn hp31 (by omega) (by omega), if_60 dx, dIn hp31 (by omega) (by omega), if_60' dy]
        have fail : stE N ν (nI w) (nI (t.far (sec t w) (t.f w))) (nI (sec t w)) (nI (thd t w)) = some (0, ν) → ¬ (whl (prs t w) (t.c (thd t w)) = true ∧ whl (prs t w) (t.c (sec t w)) = true ∧ whl (prs t w) (t.c w) = true) → DL N ν t 5 (nI w) (pm t (pl5 t w)) := fun h1 h2 => by
          refine DL.no (no (es.trans h1)) ?_
          have : pl5 t w = none := if_neg (fun z => by
            simp only [Bool.and_eq_true] at z
            exact h2 z.2)
          rw [this]; rfl
        by_cases k1 : prs t w % t.c w = 0
        · by_cases k2 : prs t w % t.c (sec t w) = 0
          · by_cases k3 : prs t w % t.c (thd t w) = 0
            · by_cases k4 : prs t w / t.c w ≤ 60
              · by_cases k5 : prs t w / t.c (sec t w) ≤ 60
                · by_cases k6 : prs t w / t.c (thd t w) ≤ 60
                  · rw [if_pos k1, if_pos k2, if_pos k3, if_pos k4, if_pos k5, if_pos k6] at eE
                    obtain ⟨ν', e1, r1, f1⟩ := v_stG (N := N) (z := t.far (sec t w) (t.f w)) r i hwn hx hy cw cx cy hp31 (by omega) hroom.2
                    refine DL.yes (M := Mv.mk 0 ((2 ^ w ||| 2 ^ sec t w) ||| 2 ^ thd t w) none 1 [(t.f w, t.nN, prs t w / t.c (thd t w)), (t.s w, t.nN, prs t w / t.c (sec t w)), (t.far (sec t w) (t.f w), t.nN, prs t w / t.c w)]) ?_ ?_ r1 f1
                    · rw [ed, es, eE, e1, bS_s]; rfl
                    · have : pl5 t w = some (Mv.mk 0 ((2 ^ w ||| 2 ^ sec t w) ||| 2 ^ thd t w) none 1 [(t.f w, t.nN, prs t w / t.c (thd t w)), (t.s w, t.nN, prs t w / t.c (sec t w)), (t.far (sec t w) (t.f w), t.nN, prs t w / t.c w)]) := if_pos (by
                        rw [decide_eq_true h20, wy.mpr ⟨k3, k6⟩, wx.mpr ⟨k2, k5⟩, ww.mpr ⟨k1, k4⟩]; rfl)
                      rw [this]
                      exact pm_some hroom
                  · rw [if_pos k1, if_pos k2, if_pos k3, if_pos k4, if_pos k5, if_neg k6] at eE
                    exact fail eE (fun z => k6 (wy.mp z.1).2)
                · rw [if_pos k1, if_pos k2, if_pos k3, if_pos k4, if_neg k5] at eE
                  exact fail eE (fun z => k5 (wx.mp z.2.1).2)
              · rw [if_pos k1, if_pos k2, if_pos k3, if_neg k4] at eE
                exact fail eE (fun z => k4 (ww.mp z.2.2).2)
            · rw [if_pos k1, if_pos k2, if_neg k3] at eE
              exact fail eE (fun z => k3 (wy.mp z.1).1)
          · rw [if_pos k1, if_neg k2] at eE
            exact fail eE (fun z => k2 (wx.mp z.2.1).1)
        · rw [if_neg k1] at eE
          exact fail eE (fun z => k1 (ww.mp z.2.2).1)
      · rw [if_neg h20] at es
        refine DL.no (no es) ?_
        have : pl5 t w = none := if_neg (by rw [decide_eq_false h20]; simp)
        rw [this]; rfl
    · have es0 : f_L_stars N ν (nI w) = some (0, ν) := by
        rw [es]
        by_cases h1 : t.nW ≤ 17
        · rw [if_neg (show ¬ 17 < nI t.nW from nI_nlt (a := 17) (by omega) (by omega)), if_neg (show ¬ nI t.nN ≤ 6 from nI_ge (a := 6) (by omega) (by omega))]
        · rw [if_pos (show 17 < nI t.nW from nI_lt (a := 17) (by omega) (by omega))]
      refine DL.no (no es0) ?_
      unfold pl5
      split
      · exact pm_full (fun z => hroom ⟨z.1, z.2⟩)
      · rfl
end stars
/-- the plans by their number -/
def plK (k : Nat) (t : Nt) (w : Nat) : Option Mv := match k with
  | 0 => pl0 t w
  | 1 => pl1 t w
  | 2 => pl2 t w
  | 3 => pl3 t w
  | 4 => pl4 t w
  | _ => pl5 t w
/-- whether there is such a wire or node -/
def thB (k : Nat) (t : Nt) (w : Nat) : Bool := if (k == 0 || k == 1 || k == 5) = true then t.wr.testBit w else t.nd.testBit w
theorem ldoes {N : Nat} {ν : Wd} {t : Nt} (r : RQ ν t) (i : IN t) (hN : 100 ≤ N) {k w : Nat} (hk : k ≤ 5) (hb : thB k t w = true) : DL N ν t (nI k) (nI w) (pm t (plK k t w)) := by
  rcases (show k = 0 ∨ k = 1 ∨ k = 2 ∨ k = 3 ∨ k = 4 ∨ k = 5 by omega) with rfl | rfl | rfl | rfl | rfl | rfl
  · exact ldoes_0 r i hb
  · exact ldoes_1 r i hN hb
  · exact ldoes_2 r i hN (bit7 i.nd7 hb)
  · exact ldoes_3 r i hN (bit7 i.nd7 hb)
  · exact ldoes_4 r i hN (bit7 i.nd7 hb)
  · exact ldoes_5 r i hN hb
