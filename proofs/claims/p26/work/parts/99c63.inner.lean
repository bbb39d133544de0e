/-! THE LAW'S MOVES: spikes, series, triangles. -/
theorem whl_iff {a b l : Nat} (ha : 1 ≤ a ∧ a ≤ 60) (hb : 1 ≤ b) (hl : b ≤ l) : whl (a * b) l = true ↔ a * b % l = 0 := by
  unfold whl
  rw [decide_eq_true_iff]
  refine ⟨fun h => h.1, fun h => ⟨h, ?_, ?_⟩⟩
  · have h1 := Nat.div_add_mod (a * b) l
    rw [h] at h1
    have h2 : 0 < a * b := Nat.mul_pos (by omega) (by omega)
    refine Nat.pos_of_ne_zero (fun q => ?_)
    rw [q] at h1; omega
  · have h1 : a * b / l ≤ a * l / l := Nat.div_le_div_right (Nat.mul_le_mul_left a hl)
    rw [Nat.mul_div_cancel _ (by omega)] at h1
    omega
theorem aI_1 {ρ : Type} {σ : Wd} {q n : Nat} {v : Int32} {K : Wd → Option ρ} (h : 1 < n) (hn : n < 2 ^ 31) : aI σ q n 1 v K = K (sI σ q 1 v) := aI_n (j := 1) h hn
theorem aI_4 {ρ : Type} {σ : Wd} {q n : Nat} {v : Int32} {K : Wd → Option ρ} (h : 4 < n) (hn : n < 2 ^ 31) : aI σ q n 4 v K = K (sI σ q 4 v) := aI_n (j := 4) h hn
theorem rI_4 {ρ : Type} {σ : Wd} {q n : Nat} {K : Int32 → Option ρ} (h : 4 < n) (hn : n < 2 ^ 31) : rI σ q n 4 K = K (σ.1 q 4) := rI_n (j := 4) h hn
section inner
variable {N : Nat} {ν : Wd} {t : Nt}
theorem sm_le (i : IN t) {v : Nat} : ∀ {m : Nat}, m ≤ (la t v).length → sm t v m ≤ 60 * m ∧ ∀ j, j < m → lc t v j ≤ sm t v m
  | 0, _ => ⟨Nat.le_refl _, fun j hj => absurd hj (Nat.not_lt_zero j)⟩
  | m + 1, h => by
    obtain ⟨h1, h2⟩ := sm_le i (v := v) (m := m) (by omega)
    have h3 := lc_b i (v := v) (j := m) (by omega)
    refine ⟨?_, fun j hj => ?_⟩
    · show sm t v m + lc t v m ≤ _
      omega
    · show _ ≤ sm t v m + lc t v m
      by_cases e : j = m
      · rw [e]; omega
      · have := h2 j (by omega); omega
/-- behind the spokes: the move itself -/
noncomputable def dsF (N : Nat) (ν : Wd) (a1 v1 v14 v21 : Int32) (s15 : Wd) : Option (Int32 × Wd) :=
  rI ν 0 6 1 fun v28 => aI ν 0 6 1 (v28 &&& ((1 <<< (a1 &&& 31)) ^^^ (-1))) fun s29 => rI s29 0 6 4 fun v30 => aI s29 0 6 4 (v30 &&& (v1 ^^^ (-1))) fun s31 => fl_L_does_459 N s15 v14 v21 (fun s43 => some (1, s43)) N 0 s31
/-- whether the triangle's products divide -/
noncomputable def dsR (N : Nat) (ν : Wd) (a0 a1 v1 v14 v21 : Int32) (s15 : Wd) : Option (Int32 × Wd) :=
  fl_L_does_389 N ν s15 a0 a1 v1 v14 v21 (fun (_ : Unit) => dsF N ν a1 v1 v14 v21 s15) N 0
noncomputable def dsP (N : Nat) (ν : Wd) (a0 a1 v1 v14 v21 : Int32) (s15 : Wd) : Option (Int32 × Wd) :=
  if a0 = 4 then (rI ν 0 6 3 fun v44 => if v44 ≤ 17 then dsR N ν a0 a1 v1 v14 v21 s15 else some (0, ν)) else dsR N ν a0 a1 v1 v14 v21 s15
noncomputable def dsM (N : Nat) (ν : Wd) (a0 a1 v1 v14 v21 : Int32) (s15 : Wd) : Option (Int32 × Wd) :=
  if a0 = 3 then (rI ν 0 6 3 fun v45 => if 19 < v45 then some (0, ν) else (rI s15 12 3 0 fun v46 => rI ν 3 20 v46 fun v47 => rI s15 12 3 1 fun v48 => rI ν 3 20 v48 fun v49 => mI (v47 * v49) v21 fun v50 => if 0 < v50 then some (0, ν) else dsP N ν a0 a1 v1 v14 v21 s15)) else dsP N ν a0 a1 v1 v14 v21 s15
noncomputable def dsL (N : Nat) (ν : Wd) (a0 a1 v1 v14 v17 : Int32) (s15 : Wd) : Option (Int32 × Wd) :=
  if v14 = v17 then fl_L_does_311 N ν s15 a0 a1 v1 v14 (fun v21 => dsM N ν a0 a1 v1 v14 v21 s15) N 0 0 else some (0, ν)
noncomputable def dsK (N : Nat) (ν : Wd) (a0 a1 v1 : Int32) (v14 : Int32) (s15 : Wd) : Option (Int32 × Wd) :=
  rI ν 0 6 2 fun v16 => if ((v16 >>> (a1 &&& 31)) &&& 1) = 1 then some (0, ν) else (if a0 = 2 then dsL N ν a0 a1 v1 v14 1 s15 else (if a0 = 3 then dsL N ν a0 a1 v1 v14 2 s15 else dsL N ν a0 a1 v1 v14 3 s15))
theorem v_fin2 (r : RQ ν t) (i : IN t) (hN : 100 ≤ N) {v m a : Nat} (hv : v < 7) {τ : Wd} (hs : SP τ t v m) (h3 : m ≤ 3) (hl : m ≤ (la t v).length) (ha0 : 0 < a) (ha : a < 2 ^ 31) (hroom : t.nW + (gvA t v a m 0 m).length ≤ 20) :
    ∃ ν', dsF N ν (nI v) (nI (WA t v)) (nI m) (nI a) τ = some (1, ν') ∧ RQ ν' (addWs (t.cut (2 ^ v) (WA t v) t.c) (gvA t v a m 0 m)) ∧ FrL ν ν' := by
  have rc : RQ (sI (sI ν 0 1 (nI (mn t.nd (2 ^ v)))) 0 4 (nI (mn t.wr (WA t v)))) (t.cut (2 ^ v) (WA t v) t.c) := by
    refine ⟨?_, ?_, ?_, ?_, ?_, fun w' hw' => ?_, fun w' hw' => ?_, fun w' hw' => ?_⟩
    · simp (disch := omega) only [sI_slot]; exact r.nN
    · simp (disch := omega) only [sI_slot, sI_same]; rfl
    · simp (disch := omega) only [sI_slot]; exact r.ed
    · simp (disch := omega) only [sI_slot]; exact r.nW
    · rw [sI_same]; rfl
    · simp (disch := omega) only [sI_place]; exact r.f w' hw'
    · simp (disch := omega) only [sI_place]; exact r.s w' hw'
    · simp (disch := omega) only [sI_place]; exact r.c w' hw'
  obtain ⟨ν', e1, r1, f1⟩ := v_d459 (N := N) (K := fun s43 => some ((1 : Int32), s43)) i hN hs h3 hl ha0 ha m 0 N _ _ (by omega) (by omega) rc (by exact hroom) ⟨Nat.le_refl _, fun x _ => rfl⟩
  refine ⟨ν', ?_, r1, ((FrL.put (Or.inr ⟨rfl, by omega⟩)).trans (FrL.put (Or.inr ⟨rfl, by omega⟩))).trans f1⟩
  unfold dsF
  rw [rg_1 r, c_shl (by omega), mn_c, aI_1 (by omega) (by omega), rI_4 (by omega) (by omega), sI_slot (by omega), r.wr, mn_c, aI_4 (by omega) (by omega)]
  exact e1
theorem does_ds {a0 a1 : Int32} (h0 : ¬ a0 = 0) (h1 : ¬ a0 = 1) (h5 : ¬ a0 = 5) : f_L_does N ν a0 a1 = bP (f_L_wiresOf N ν a1) fun v1 => lI (1 <<< (a1 &&& 31)) fun v2 => fl_L_does_178 N ν a0 a1 v1 (dsK N ν a0 a1 v1) N 0 v2 0 z0 := by
  unfold f_L_does
  rw [if_neg h0, if_neg h1, if_neg h5]
  rfl
/-- the way to the spokes -/
theorem does_in (r : RQ ν t) (i : IN t) (hN : 100 ≤ N) {kk : Int32} {v d : Nat} (hv : v < 7) (h0 : ¬ kk = 0) (h1 : ¬ kk = 1) (h5 : ¬ kk = 5) (hd : d ≤ 3) (h17 : ∀ (v14 : Int32) (s15 : Wd), (¬ v14 = nI d → t.ed.testBit v = false → dsK N ν kk (nI v) (nI (WA t v)) v14 s15 = some (0, ν))) :
    (f_L_does N ν kk (nI v) = some (0, ν) ∧ inn t v d = false) ∨ (inn t v d = true ∧ ∃ τ', SP τ' t v d ∧ (la t v).length = d ∧ f_L_does N ν kk (nI v) = dsK N ν kk (nI v) (nI (WA t v)) (nI d) τ') := by
  have h7 := i.ed7
  have hW := i.nW
  have nin : ¬ ((la t v).length ≤ 3 ∧ mdB (fa t v) v (la t v).length = true) → inn t v d = false := fun h => by
    cases hi : inn t v d
    · rfl
    · have hl := inn_len hi
      unfold inn at hi
      rw [Bool.and_eq_true, Bool.and_eq_true] at hi
      exact absurd ⟨by omega, by rw [hl]; exact hi.2.2⟩ h
  rw [does_ds h0 h1 h5, v_wiresOf r i hN hv, bP_s, c_shl (by omega)]
  simp only [lI]
  rcases v_d178 (N := N) (x0 := kk) (K := dsK N ν kk (nI v) (nI (WA t v))) r i hv t.nW 0 N z0 (by omega) (by omega) (Nat.zero_le _) (mdB_iff.mpr (fun x hx => absurd hx (Nat.not_lt_zero x))) (fun j hj => absurd hj (Nat.not_lt_zero j)) with ⟨q1, q2⟩ | ⟨τ', q1, q2, q3, q4⟩
  · exact Or.inl ⟨q1, nin q2⟩
  · have q1' : fl_L_does_178 N ν kk (nI v) (nI (WA t v)) (dsK N ν kk (nI v) (nI (WA t v))) N 0 (nI (2 ^ v)) 0 z0 = dsK N ν kk (nI v) (nI (WA t v)) (nI (la t v).length) τ' := q1
    cases he : t.ed.testBit v
    · by_cases hl : (la t v).length = d
      · refine Or.inr ⟨?_, τ', by rw [← hl]; exact q2, hl, by rw [q1', hl]⟩
        unfold inn
        rw [he, beq_iff_eq.mpr hl, ← hl, q4]; rfl
      · refine Or.inl ⟨?_, ?_⟩
        · rw [q1']
          exact h17 _ _ (fun z => hl ((nI_eq (by omega) (by omega)).mp z)) he
        · unfold inn
          rw [beq_false_of_ne hl]; simp
    · refine Or.inl ⟨?_, ?_⟩
      · rw [q1']
        unfold dsK
        rw [rg_2 r, c_in (by omega) (by omega), he, if_pos (show bI true = 1 from rfl)]
      · unfold inn
        rw [he]; rfl
theorem inn_ed' {v d : Nat} (h : inn t v d = true) : t.ed.testBit v = false := by
  unfold inn at h
  rw [Bool.and_eq_true, Bool.not_eq_true'] at h
  exact h.1
theorem ldoes_2 (r : RQ ν t) (i : IN t) (hN : 100 ≤ N) {v : Nat} (hv : v < 7) : DL N ν t 2 (nI v) (pm t (pl2 t v)) := by
  have h7 := i.ed7
  have hW := i.nW
  have hnN := i.nN
  rcases does_in (kk := 2) (d := 1) r i hN hv (by decide) (by decide) (by decide) (by omega) (fun v14 s15 h he => by
    unfold dsK dsL
    rw [rg_2 r, c_in (by omega) (by omega), he, if_neg (by decide), if_pos rfl]
    exact if_neg h) with ⟨q1, q2⟩ | ⟨q1, τ', q2, q3, q4⟩
  · refine DL.no q1 ?_
    have : pl2 t v = none := if_neg (by rw [q2]; decide)
    rw [this]; rfl
  · have he := inn_ed' q1
    have hsm := sm_le i (v := v) (m := 1) (by omega)
    have hlc := lc_b i (v := v) (j := 0) (by omega)
    have hsl := hsm.2 0 (by omega)
    obtain ⟨ν', e1, r1, f1⟩ := v_fin2 (N := N) (a := sm t v 1) r i hN hv q2 (by omega) (by omega) (by omega) (by omega) (by show t.nW + 0 ≤ 20; omega)
    refine DL.yes (M := Mv.mk (2 ^ v) (WA t v) none 0 []) (q4.trans ?_) ?_ r1 f1
    · unfold dsK dsL
      rw [rg_2 r, c_in (by omega) (by omega), he, if_neg (by decide), if_pos rfl, if_pos (show nI 1 = 1 from rfl)]
      refine (v_d311 (N := N) (x0 := 2) (x6 := nI (WA t v)) r i q2 (by omega) (by omega) 1 0 N (by omega) (by omega)).trans ?_
      unfold dsM dsP dsR
      rw [if_neg (by decide), if_neg (by decide)]
      obtain ⟨n, rfl⟩ : ∃ m, N = m + 1 := ⟨N - 1, by omega⟩
      rw [fl_L_does_389, if_neg (by decide), if_neg (by decide)]
      exact e1
    · have : pl2 t v = some (Mv.mk (2 ^ v) (WA t v) none 0 []) := if_pos q1
      rw [this]
      exact pm_some ⟨by show t.nN + 0 ≤ 7; omega, by show t.nW + 0 ≤ 20; omega⟩
theorem ldoes_3 (r : RQ ν t) (i : IN t) (hN : 100 ≤ N) {v : Nat} (hv : v < 7) : DL N ν t 3 (nI v) (pm t (pl3 t v)) := by
  have h7 := i.ed7
  have hW := i.nW
  have hnN := i.nN
  rcases does_in (kk := 3) (d := 2) r i hN hv (by decide) (by decide) (by decide) (by omega) (fun v14 s15 h he => by
    unfold dsK dsL
    rw [rg_2 r, c_in (by omega) (by omega), he, if_neg (by decide), if_neg (by decide), if_pos rfl]
    exact if_neg h) with ⟨q1, q2⟩ | ⟨q1, τ', q2, q3, q4⟩
  · refine DL.no q1 ?_
    have : pl3 t v = none := if_neg (by rw [q2]; simp)
    rw [this]; rfl
  · have he := inn_ed' q1
    have hsm := sm_le i (v := v) (m := 2) (by omega)
    have b0 := lc_b i (v := v) (j := 0) (by omega)
    have b1 := lc_b i (v := v) (j := 1) (by omega)
    have b01 := mul60 b0.2 b1.2
    have l0 := hsm.2 0 (by omega)
    have l1 := hsm.2 1 (by omega)
    have es : sm t v 2 = lc t v 0 + lc t v 1 := by show 0 + lc t v 0 + lc t v 1 = _; omega
    have hw : whl (lc t v 0 * lc t v 1) (lc t v 0 + lc t v 1) = true ↔ lc t v 0 * lc t v 1 % sm t v 2 = 0 := by rw [← es]; exact whl_iff b0 b1.1 l1
    have e3 : f_L_does N ν 3 (nI v) = if 19 < nI t.nW then some ((0 : Int32), ν) else if 0 < nI (lc t v 0 * lc t v 1 % sm t v 2) then some (0, ν) else dsF N ν (nI v) (nI (WA t v)) (nI 2) (nI (sm t v 2)) τ' := by
      rw [q4]
      unfold dsK dsL
      rw [rg_2 r, c_in (by omega) (by omega), he, if_neg (by decide), if_neg (by decide), if_pos rfl, if_pos (show nI 2 = 2 from rfl)]
      refine (v_d311 (N := N) (x0 := 3) (x6 := nI (WA t v)) r i q2 (by omega) (by omega) 2 0 N (by omega) (by omega)).trans ?_
      unfold dsM dsP dsR
      have c0 := fun (K : Int32 → Option (Int32 × Wd)) => lc_c (K := K) r i q2 (show 0 < 2 by omega) (by omega) (by omega)
      have c1 := fun (K : Int32 → Option (Int32 × Wd)) => lc_c (K := K) r i q2 (show 1 < 2 by omega) (by omega) (by omega)
      rw [if_pos rfl, rg_3 r]
      refine ite_congr rfl (fun _ => rfl) (fun _ => ?_)
      refine (c0 _).trans ((c1 _).trans ?_)
      rw [pk_mul, mIn (by omega) (by omega) (by omega)]
      refine ite_congr rfl (fun _ => rfl) (fun _ => ?_)
      rw [if_neg (by decide)]
      obtain ⟨n, rfl⟩ : ∃ m, N = m + 1 := ⟨N - 1, by omega⟩
      rw [fl_L_does_389, if_neg (by decide), if_neg (by decide)]
    have hmod : lc t v 0 * lc t v 1 % sm t v 2 < 2 ^ 31 := Nat.lt_trans (Nat.mod_lt _ (by omega)) (by omega)
    by_cases hroom : t.nW ≤ 19
    · rw [if_neg (show ¬ 19 < nI t.nW from nI_nlt (a := 19) hroom (by omega))] at e3
      by_cases hdv : lc t v 0 * lc t v 1 % sm t v 2 = 0
      · rw [hdv, if_neg (by decide)] at e3
        obtain ⟨ν', e1, r1, f1⟩ := v_fin2 (N := N) (a := sm t v 2) r i hN hv q2 (by omega) (by omega) (by omega) (by omega) (by show t.nW + 1 ≤ 20; omega)
        refine DL.yes (M := Mv.mk (2 ^ v) (WA t v) none 0 [(fa t v 0, fa t v 1, lc t v 0 * lc t v 1 / (lc t v 0 + lc t v 1))]) (e3.trans e1) ?_ (by rw [← es]; exact r1) f1
        have : pl3 t v = some (Mv.mk (2 ^ v) (WA t v) none 0 [(fa t v 0, fa t v 1, lc t v 0 * lc t v 1 / (lc t v 0 + lc t v 1))]) := if_pos (by rw [q1, hw.mpr hdv]; rfl)
        rw [this]
        exact pm_some ⟨by show t.nN + 0 ≤ 7; omega, by show t.nW + 1 ≤ 20; omega⟩
      · rw [if_pos (show 0 < nI (lc t v 0 * lc t v 1 % sm t v 2) from nI_lt (a := 0) (by omega) (by omega))] at e3
        refine DL.no e3 ?_
        have : pl3 t v = none := if_neg (fun z => by
          rw [Bool.and_eq_true] at z
          exact hdv (hw.mp z.2))
        rw [this]; rfl
    · rw [if_pos (show 19 < nI t.nW from nI_lt (a := 19) (by omega) (by omega))] at e3
      refine DL.no e3 ?_
      unfold pl3
      split
      · exact pm_full (fun z => by have h2 : t.nW + 1 ≤ 20 := z.2; omega)
      · rfl
theorem v_d389 (r : RQ ν t) (i : IN t) {v a : Nat} {τ : Wd} (hs : SP τ t v 3) (hl : 3 ≤ (la t v).length) (ha0 : 0 < a) (ha : a < 2 ^ 31) {x6 : Int32} {K : Unit → Option (Int32 × Wd)} {k n : Nat} (hk : k < 3) : fl_L_does_389 N ν τ 4 (nI v) x6 (nI 3) (nI a) K (n + 1) (nI k) = if lc t v k * lc t v ((k + 1) % 3) % a = 0 then fl_L_does_389 N ν τ 4 (nI v) x6 (nI 3) (nI a) K n (nI (k + 1)) else some (0, ν) := by
  have b0 := lc_b i (v := v) (j := k) (by omega)
  have b1 := lc_b i (v := v) (j := (k + 1) % 3) (by omega)
  have b01 := mul60 b0.2 b1.2
  have c0 := fun (K : Int32 → Option (Int32 × Wd)) => lc_c (K := K) r i hs hk (by omega) hl
  have c1 := fun (K : Int32 → Option (Int32 × Wd)) => lc_c (K := K) r i hs (show (k + 1) % 3 < 3 by omega) (by omega) hl
  rw [fl_L_does_389, if_neg (show ¬ (3 : Int32) ≤ nI k from nI_ge (b := 3) hk (by omega)), if_pos rfl]
  refine (c0 _).trans ?_
  rw [nI_1, show (3 : Int32) = nI 3 from rfl, mIn (by omega) (by omega) (by omega)]
  refine (c1 _).trans ?_
  rw [pk_mul, mIn (by omega) ha0 ha]
  have hm : lc t v k * lc t v ((k + 1) % 3) % a < 2 ^ 31 := Nat.lt_trans (Nat.mod_lt _ ha0) ha
  by_cases q : lc t v k * lc t v ((k + 1) % 3) % a = 0
  · rw [q, if_pos (by decide), if_pos rfl]
  · rw [if_neg q, if_neg (show ¬ nI (lc t v k * lc t v ((k + 1) % 3) % a) ≤ 0 from nI_ge (a := 0) (by omega) (by omega))]
theorem ldoes_4 (r : RQ ν t) (i : IN t) (hN : 100 ≤ N) {v : Nat} (hv : v < 7) : DL N ν t 4 (nI v) (pm t (pl4 t v)) := by
  have h7 := i.ed7
  have hW := i.nW
  have hnN := i.nN
  rcases does_in (kk := 4) (d := 3) r i hN hv (by decide) (by decide) (by decide) (by omega) (fun v14 s15 h he => by
    unfold dsK dsL
    rw [rg_2 r, c_in (by omega) (by omega), he, if_neg (by decide), if_neg (by decide), if_neg (by decide)]
    exact if_neg h) with ⟨q1, q2⟩ | ⟨q1, τ', q2, q3, q4⟩
  · refine DL.no q1 ?_
    have : pl4 t v = none := if_neg (by rw [q2]; simp)
    rw [this]; rfl
  · have he := inn_ed' q1
    have hsm := sm_le i (v := v) (m := 3) (by omega)
    have b0 := lc_b i (v := v) (j := 0) (by omega)
    have b1 := lc_b i (v := v) (j := 1) (by omega)
    have b2 := lc_b i (v := v) (j := 2) (by omega)
    have l0 := hsm.2 0 (by omega)
    have l1 := hsm.2 1 (by omega)
    have l2 := hsm.2 2 (by omega)
    have es : sm t v 3 = sm3 t v := by show 0 + lc t v 0 + lc t v 1 + lc t v 2 = lc t v 0 + lc t v 1 + lc t v 2; omega
    have w01 : whl (lc t v 0 * lc t v 1) (sm3 t v) = true ↔ lc t v 0 * lc t v 1 % sm t v 3 = 0 := by rw [← es]; exact whl_iff b0 b1.1 l1
    have w02 : whl (lc t v 0 * lc t v 2) (sm3 t v) = true ↔ lc t v 2 * lc t v 0 % sm t v 3 = 0 := by rw [← es, Nat.mul_comm (lc t v 2)]; exact whl_iff b0 b2.1 l2
    have w12 : whl (lc t v 1 * lc t v 2) (sm3 t v) = true ↔ lc t v 1 * lc t v 2 % sm t v 3 = 0 := by rw [← es]; exact whl_iff b1 b2.1 l2
    have e4 : f_L_does N ν 4 (nI v) = if nI t.nW ≤ 17 then (if lc t v 0 * lc t v 1 % sm t v 3 = 0 then (if lc t v 1 * lc t v 2 % sm t v 3 = 0 then (if lc t v 2 * lc t v 0 % sm t v 3 = 0 then dsF N ν (nI v) (nI (WA t v)) (nI 3) (nI (sm t v 3)) τ' else some (0, ν)) else some (0, ν)) else some (0, ν)) else some ((0 : Int32), ν) := by
      rw [q4]
      unfold dsK dsL
      rw [rg_2 r, c_in (by omega) (by omega), he, if_neg (by decide), if_neg (by decide), if_neg (by decide), if_pos (show nI 3 = 3 from rfl)]
      refine (v_d311 (N := N) (x0 := 4) (x6 := nI (WA t v)) r i q2 (by omega) (by omega) 3 0 N (by omega) (by omega)).trans ?_
      unfold dsM dsP dsR
      rw [if_neg (by decide), if_pos rfl, rg_3 r]
      refine ite_congr rfl (fun _ => ?_) (fun _ => rfl)
      obtain ⟨n, hn⟩ : ∃ m, N = m + 4 := ⟨N - 4, by omega⟩
      have e389 := fun (k n : Nat) (hk : k < 3) => v_d389 (N := N) (x6 := nI (WA t v)) (K := fun (_ : Unit) => dsF N ν (nI v) (nI (WA t v)) (nI 3) (nI (sm t v 3)) τ') (n := n) r i q2 (by omega) (show 0 < sm t v 3 by omega) (by omega) hk
      have f0 := e389 0 (n + 3) (by omega)
      rw [show n + 3 + 1 = N by omega] at f0
      refine f0.trans ?_
      rw [e389 (0 + 1) (n + 2) (by omega), e389 (0 + 1 + 1) (n + 1) (by omega)]
      have f3 : fl_L_does_389 N ν τ' 4 (nI v) (nI (WA t v)) (nI 3) (nI (sm t v 3)) (fun (_ : Unit) => dsF N ν (nI v) (nI (WA t v)) (nI 3) (nI (sm t v 3)) τ') (n + 1) (nI (0 + 1 + 1 + 1)) = dsF N ν (nI v) (nI (WA t v)) (nI 3) (nI (sm t v 3)) τ' := by
        rw [fl_L_does_389, if_pos (show (3 : Int32) ≤ nI (0 + 1 + 1 + 1) by decide)]
      rw [f3]
    by_cases hroom : t.nW ≤ 17
    · rw [if_pos (show nI t.nW ≤ 17 from nI_le (b := 17) hroom (by omega))] at e4
      by_cases d01 : lc t v 0 * lc t v 1 % sm t v 3 = 0
      · by_cases d12 : lc t v 1 * lc t v 2 % sm t v 3 = 0
        · by_cases d20 : lc t v 2 * lc t v 0 % sm t v 3 = 0
          · rw [if_pos d01, if_pos d12, if_pos d20] at e4
            obtain ⟨ν', e1, r1, f1⟩ := v_fin2 (N := N) (a := sm t v 3) r i hN hv q2 (by omega) (by omega) (by omega) (by omega) (by show t.nW + 3 ≤ 20; omega)
            rw [es] at r1
            refine DL.yes (M := Mv.mk (2 ^ v) (WA t v) none 0 [(fa t v 0, fa t v 1, lc t v 0 * lc t v 1 / sm3 t v), (fa t v 0, fa t v 2, lc t v 0 * lc t v 2 / sm3 t v), (fa t v 1, fa t v 2, lc t v 1 * lc t v 2 / sm3 t v)]) (e4.trans e1) ?_ r1 f1
            have : pl4 t v = some (Mv.mk (2 ^ v) (WA t v) none 0 [(fa t v 0, fa t v 1, lc t v 0 * lc t v 1 / sm3 t v), (fa t v 0, fa t v 2, lc t v 0 * lc t v 2 / sm3 t v), (fa t v 1, fa t v 2, lc t v 1 * lc t v 2 / sm3 t v)]) := if_pos (by rw [q1, w01.mpr d01, w02.mpr d20, w12.mpr d12]; rfl)
            rw [this]
            exact pm_some ⟨by show t.nN + 0 ≤ 7; omega, by show t.nW + 3 ≤ 20; omega⟩
          · rw [if_pos d01, if_pos d12, if_neg d20] at e4
            refine DL.no e4 ?_
            have : pl4 t v = none := if_neg (fun z => by
              simp only [Bool.and_eq_true] at z
              exact d20 (w02.mp z.2.2.1))
            rw [this]; rfl
        · rw [if_pos d01, if_neg d12] at e4
          refine DL.no e4 ?_
          have : pl4 t v = none := if_neg (fun z => by
            simp only [Bool.and_eq_true] at z
            exact d12 (w12.mp z.2.2.2))
          rw [this]; rfl
      · rw [if_neg d01] at e4
        refine DL.no e4 ?_
        have : pl4 t v = none := if_neg (fun z => by
          simp only [Bool.and_eq_true] at z
          exact d01 (w01.mp z.2.1))
        rw [this]; rfl
    · rw [if_neg (show ¬ nI t.nW ≤ 17 from nI_ge (a := 17) (by omega) (by omega))] at e4
      refine DL.no e4 ?_
      unfold pl4
      split
      · exact pm_full (fun z => by have h2 : t.nW + 3 ≤ 20 := z.2; omega)
      · rfl
end inner
