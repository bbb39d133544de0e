/-! THE LAW'S MOVES: inner nodes. -/
theorem mdB_iff {f : Nat → Nat} {v d : Nat} : mdB f v d = true ↔ ∀ x, x < d → f x ≠ v ∧ ∀ j, j < x → f j ≠ f x := by
  unfold mdB
  rw [al_iff]
  constructor
  · intro h x hx
    have := h x (Nat.zero_le _) (by omega)
    rw [Bool.and_eq_true, Bool.not_eq_true', beq_eq_false_iff_ne, al_iff] at this
    refine ⟨this.1, fun j hj => ?_⟩
    have h2 := this.2 j (Nat.zero_le _) (by omega)
    rw [Bool.not_eq_true', beq_eq_false_iff_ne] at h2
    exact h2
  · intro h x _ hx
    obtain ⟨h1, h2⟩ := h x (by omega)
    rw [Bool.and_eq_true, Bool.not_eq_true', beq_eq_false_iff_ne, al_iff]
    refine ⟨h1, fun j _ hj => ?_⟩
    rw [Bool.not_eq_true', beq_eq_false_iff_ne]
    exact h2 j (by omega)
theorem orF_bit {f : Nat → Nat} {v : Nat} : ∀ {d x : Nat}, (orF f v d).testBit x = true ↔ x = v ∨ ∃ j, j < d ∧ x = f j
  | 0, x => by
    unfold orF
    rw [Nat.testBit_two_pow, decide_eq_true_iff]
    exact ⟨fun h => Or.inl h.symm, fun h => h.elim Eq.symm (fun ⟨j, hj, _⟩ => absurd hj (Nat.not_lt_zero j))⟩
  | d + 1, x => by
    unfold orF
    rw [or_bit, orF_bit]
    constructor
    · rintro ((h | ⟨j, hj, h⟩) | h)
      · exact Or.inl h
      · exact Or.inr ⟨j, by omega, h⟩
      · exact Or.inr ⟨d, by omega, h⟩
    · rintro (h | ⟨j, hj, h⟩)
      · exact Or.inl (Or.inl h)
      · by_cases e : j = d
        · subst e; exact Or.inr h
        · exact Or.inl (Or.inr ⟨j, by omega, h⟩)
/-- the rows of spokes and of far nodes, made on the way -/
def SP (τ : Wd) (t : Nt) (v m : Nat) : Prop := ∀ j, j < m → τ.1 12 j = nI ((la t v).getD j 0) ∧ τ.1 13 j = nI (fa t v j)
theorem SP.le {τ : Wd} {t : Nt} {v m m' : Nat} (h : SP τ t v m) (hm : m' ≤ m) : SP τ t v m' := fun j hj => h j (by omega)
theorem far_sum (t : Nt) {k v : Nat} (h : t.f k = v ∨ t.s k = v) : t.f k + t.s k - v = t.far k v := by
  unfold Nt.far
  by_cases e : t.f k = v
  · rw [if_pos e, ← e]; omega
  · rw [if_neg e]
    rcases h with h | h
    · exact absurd h e
    · rw [h]; omega
section kinds
variable {N : Nat} {ν : Wd} {t : Nt}
theorem pick_nW (i : IN t) (v : Nat) : pick (atB t v) t.nW = la t v := by
  have hW := i.nW
  have : ∀ d, pick (atB t v) (t.nW + d) = pick (atB t v) t.nW := by
    intro d
    induction d with
    | zero => rfl
    | succ d ih =>
      have hb : atB t v (t.nW + d) = false := by
        show (t.wr.testBit (t.nW + d) && _) = false
        rw [wr_out i (by omega)]; rfl
      show pick (atB t v) ((t.nW + d) + 1) = _
      rw [pick, hb]
      exact ih
  have h := this (20 - t.nW)
  rw [show t.nW + (20 - t.nW) = 20 by omega] at h
  exact h.symm
/-- the wires at a node, one after another: no such node, or its spokes -/
theorem v_d178 (r : RQ ν t) (i : IN t) {v : Nat} (hv : v < 7) {x0 : Int32} {K : Int32 → Wd → Option (Int32 × Wd)} : ∀ d k n (τ : Wd), k + d = t.nW → d < n → (pick (atB t v) k).length ≤ 3 → mdB (fa t v) v (pick (atB t v) k).length = true → SP τ t v (pick (atB t v) k).length →
    (fl_L_does_178 N ν x0 (nI v) (nI (WA t v)) K n (nI (pick (atB t v) k).length) (nI (orF (fa t v) v (pick (atB t v) k).length)) (nI k) τ = some (0, ν) ∧ ¬ ((la t v).length ≤ 3 ∧ mdB (fa t v) v (la t v).length = true)) ∨
    ∃ τ', fl_L_does_178 N ν x0 (nI v) (nI (WA t v)) K n (nI (pick (atB t v) k).length) (nI (orF (fa t v) v (pick (atB t v) k).length)) (nI k) τ = K (nI (la t v).length) τ' ∧ SP τ' t v (la t v).length ∧ (la t v).length ≤ 3 ∧ mdB (fa t v) v (la t v).length = true := by
  have hW := i.nW
  have hWA := WA_lt t v
  intro d
  induction d with
  | zero =>
    intro k n τ hk hn h3 hm hs
    obtain ⟨n, rfl⟩ : ∃ m, n = m + 1 := ⟨n - 1, by omega⟩
    have e : pick (atB t v) k = la t v := by rw [show k = t.nW by omega]; exact pick_nW i v
    refine Or.inr ⟨τ, ?_, by rw [← e]; exact hs, by rw [← e]; exact h3, by rw [← e]; exact hm⟩
    rw [fl_L_does_178, rg_3 r, if_pos (nI_le (by omega) (by omega)), e]
  | succ d ih =>
    intro k n τ hk hn h3 hm hs
    obtain ⟨n, rfl⟩ : ∃ m, n = m + 1 := ⟨n - 1, by omega⟩
    have hkW : k < t.nW := by omega
    have hf := i.fb k
    have hss := i.sb k
    have hb : (WA t v).testBit k = atB t v k := by
      apply Bool.eq_iff_iff.mpr
      unfold WA
      rw [stB_bit]
      exact ⟨fun h => h.2, fun h => ⟨by omega, h⟩⟩
    rw [fl_L_does_178, rg_3 r, if_neg (nI_ge hkW (by omega)), jn_e, c_in (by omega) (by omega), if_bI0, hb]
    cases hp : atB t v k
    · have e1 : pick (atB t v) (k + 1) = pick (atB t v) k := by rw [pick, hp]; rfl
      have := ih (k + 1) n τ (by omega) (by omega) (by rw [e1]; exact h3) (by rw [e1]; exact hm) (by rw [e1]; exact hs)
      rw [e1] at this
      rw [if_neg (by decide), nI_1]
      exact this
    · have e1 : pick (atB t v) (k + 1) = pick (atB t v) k ++ [k] := by rw [pick, hp]; rfl
      obtain ⟨p1, p2⟩ := pick_at (p := atB t v) hp (show k < 20 by omega)
      have hlen : (pick (atB t v) k ++ [k]).length = (pick (atB t v) k).length + 1 := by simp
      have hfar : t.far k v = fa t v (pick (atB t v) k).length := by
        unfold fa la
        rw [p1]
      have p1' : (la t v).getD (pick (atB t v) k).length 0 = k := p1
      have p2' : (pick (atB t v) k).length < (la t v).length := p2
      have hat : t.f k = v ∨ t.s k = v := by
        unfold atB at hp
        rw [Bool.and_eq_true, Bool.or_eq_true, beq_iff_eq, beq_iff_eq] at hp
        exact hp.2
      have h7 := far_lt i k v
      rw [if_pos rfl]
      generalize hM : (pick (atB t v) k).length = M at *
      by_cases e3 : M = 3
      · refine Or.inl ⟨?_, fun q => by omega⟩
        rw [if_pos (by rw [e3]; rfl)]
      · have hM3 : M < 3 := by omega
        have hv2 : t.f k + t.s k - v = t.far k v := far_sum t hat
        have hge : v ≤ t.f k + t.s k := by rcases hat with z | z <;> omega
        rw [if_neg (show ¬ nI M = 3 from fun z => e3 ((nI_eq (b := 3) (by omega) (by omega)).mp z))]
        have ho7 : orF (fa t v) v M < 128 := orF_lt hv (fun j _ => far_lt i _ _)
        simp only [rp_1 r i hkW, rp_2 r i hkW, nI_add]
        rw [aI_n (by omega) (by omega), pk_sub hge, hv2, aI_n (by omega) (by omega), rI_n (by omega) (by omega), sI_same, rI_n (by omega) (by omega), sI_same, c_in (by omega) (by omega), if_bI1]
        cases hbit : (orF (fa t v) v M).testBit (t.far k v)
        · rw [if_neg (by decide), nI_1, c_shl (by omega), nI_1]
          simp only [lI, fa_or]
          have hno : ¬ (t.far k v = v ∨ ∃ j, j < M ∧ t.far k v = fa t v j) := fun z => by rw [orF_bit.mpr z] at hbit; exact absurd hbit (by decide)
          have hm' : mdB (fa t v) v (M + 1) = true := by
            rw [mdB_iff] at hm ⊢
            intro x hx
            by_cases e : x = M
            · subst e
              rw [← hfar]
              exact ⟨fun z => hno (Or.inl z), fun j hj z => hno (Or.inr ⟨j, hj, z.symm⟩)⟩
            · exact hm x (by omega)
          have := ih (k + 1) n (sI (sI τ 12 M (nI k)) 13 M (nI (t.far k v))) (by omega) (by omega) (by rw [e1, hlen]; omega) (by rw [e1, hlen]; exact hm') (by
            rw [e1, hlen]
            intro j hj
            by_cases e : j = M
            · subst e
              refine ⟨?_, ?_⟩
              · rw [sI_place (by omega), sI_same, p1']
              · rw [sI_same, hfar]
            · refine ⟨?_, ?_⟩
              · rw [sI_place (by omega), sI_slot e]; exact (hs j (by omega)).1
              · rw [sI_slot e, sI_place (by omega)]; exact (hs j (by omega)).2)
          rw [e1, hlen] at this
          have eo : orF (fa t v) v (M + 1) = orF (fa t v) v M ||| 2 ^ t.far k v := by rw [hfar]; rfl
          rw [eo] at this
          exact this
        · refine Or.inl ⟨by rw [if_pos rfl], fun q => ?_⟩
          have hm2 := (mdB_iff.mp q.2) M (by omega)
          rw [← hfar] at hm2
          rcases orF_bit.mp hbit with z | ⟨j, hj, z⟩
          · exact hm2.1 z
          · exact hm2.2 j hj z.symm
theorem lc_c (r : RQ ν t) (i : IN t) {τ : Wd} {v m j : Nat} (hs : SP τ t v m) (hj : j < m) (h3 : m ≤ 3) (hl : m ≤ (la t v).length) {ρ : Type} {K : Int32 → Option ρ} : (rI τ 12 3 (nI j) fun x => rI ν 3 20 x K) = K (nI (lc t v j)) := by
  have h1 := la_in (t := t) (v := v) (j := j) (by omega)
  rw [rI_n (by omega) (by omega), (hs j hj).1, rp_3 r i (bit_lt i.wr h1.2.1)]
  rfl
/-- the spokes' conductances together -/
def sm (t : Nt) (v : Nat) : Nat → Nat
  | 0 => 0
  | k + 1 => sm t v k + lc t v k
theorem v_d311 (r : RQ ν t) (i : IN t) {τ : Wd} {v m : Nat} {ρ : Type} {x0 x6 : Int32} {K : Int32 → Option ρ} (hs : SP τ t v m) (h3 : m ≤ 3) (hl : m ≤ (la t v).length) : ∀ d k n, k + d = m → d < n → fl_L_does_311 N ν τ x0 (nI v) x6 (nI m) K n (nI (sm t v k)) (nI k) = K (nI (sm t v m)) := by
  intro d
  induction d with
  | zero =>
    intro k n hk hn
    obtain ⟨n, rfl⟩ : ∃ m, n = m + 1 := ⟨n - 1, by omega⟩
    rw [fl_L_does_311, if_pos (nI_le (by omega) (by omega)), show k = m by omega]
  | succ d ih =>
    intro k n hk hn
    obtain ⟨n, rfl⟩ : ∃ m, n = m + 1 := ⟨n - 1, by omega⟩
    rw [fl_L_does_311, if_neg (nI_ge (by omega) (by omega)), lc_c r i hs (by omega) h3 hl, nI_add, nI_1]
    exact ih (k + 1) n (by omega) (by omega)
theorem addWs_app : ∀ (L M : List (Nat × Nat × Nat)) (u : Nt), addWs u (L ++ M) = addWs (addWs u L) M
  | [], _, _ => rfl
  | e :: L, M, u => addWs_app L M _
/-- the wires that come between far nodes -/
def gvL (t : Nt) (v a i j : Nat) : Nat → List (Nat × Nat × Nat)
  | 0 => []
  | d + 1 => (fa t v i, fa t v j, lc t v i * lc t v j / a) :: gvL t v a i (j + 1) d
theorem gvL_len (t : Nt) (v a i : Nat) : ∀ d j, (gvL t v a i j d).length = d
  | 0, _ => rfl
  | d + 1, j => congrArg (· + 1) (gvL_len t v a i d (j + 1))
/-- the row of conductances holds what it held of the spokes -/
def CS (t u : Nt) (v m : Nat) : Prop := t.nW ≤ u.nW ∧ ∀ x, x < m → u.c ((la t v).getD x 0) = lc t v x
theorem v_d472 (i : IN t) {τ : Wd} {v m a : Nat} {ρ : Type} {K : Wd → Option ρ} (hs : SP τ t v m) (h3 : m ≤ 3) (hl : m ≤ (la t v).length) (ha0 : 0 < a) (ha : a < 2 ^ 31) {x : Nat} (hx : x < m) : ∀ d j n (ν0 : Wd) (u : Nt), j + d = m → d < n → RQ ν0 u → u.nW + d ≤ 20 → CS t u v m →
    ∃ ν', fl_L_does_472 N τ (nI m) (nI a) (nI x) K n (nI j) ν0 = K ν' ∧ RQ ν' (addWs u (gvL t v a x j d)) ∧ FrL ν0 ν' ∧ CS t (addWs u (gvL t v a x j d)) v m ∧ (addWs u (gvL t v a x j d)).nW = u.nW + d := by
  have hW := i.nW
  intro d
  induction d with
  | zero =>
    intro j n ν0 u hj hn r _ hc
    obtain ⟨n, rfl⟩ : ∃ m, n = m + 1 := ⟨n - 1, by omega⟩
    refine ⟨ν0, ?_, r, FrL.rfl' _, hc, rfl⟩
    rw [fl_L_does_472, if_pos (nI_le (by omega) (by omega))]
  | succ d ih =>
    intro j n ν0 u hj hn r hu hc
    obtain ⟨n, rfl⟩ : ∃ m, n = m + 1 := ⟨n - 1, by omega⟩
    have hlx := la_in (t := t) (v := v) (j := x) (by omega)
    have hlj := la_in (t := t) (v := v) (j := j) (by omega)
    have hwx := bit_lt i.wr hlx.2.1
    have hwj := bit_lt i.wr hlj.2.1
    have cx : rI ν0 3 20 (nI ((la t v).getD x 0)) = fun K : Int32 → Option ρ => K (nI (lc t v x)) := by
      funext K
      rw [rI_n (by omega) (by omega), r.c _ (by have := hc.1; omega), hc.2 x hx]
    have cj : rI ν0 3 20 (nI ((la t v).getD j 0)) = fun K : Int32 → Option ρ => K (nI (lc t v j)) := by
      funext K
      rw [rI_n (by omega) (by omega), r.c _ (by have := hc.1; omega), hc.2 j (by omega)]
    have b1 := lc_b i (v := v) (j := x) (by omega)
    have b2 := lc_b i (v := v) (j := j) (by omega)
    have b3 := mul60 b1.2 b2.2
    obtain ⟨ν1, e1, r1, f1⟩ := v_adds (N := N) r (by omega) (fa t v x) (fa t v j) (lc t v x * lc t v j / a)
    have hc1 : CS t (u.addW (fa t v x) (fa t v j) (lc t v x * lc t v j / a)) v m := ⟨Nat.le_trans hc.1 (Nat.le_succ _), fun y hy => by
      have hly := la_in (t := t) (v := v) (j := y) (by omega)
      have hwy := bit_lt i.wr hly.2.1
      have h1 := hc.1
      show upN u.c u.nW _ _ = _
      rw [upN_o (by omega)]
      exact hc.2 y hy⟩
    obtain ⟨ν2, e2, r2, f2, c2, n2⟩ := ih (j + 1) n ν1 _ (by omega) (by omega) r1 (by show u.nW + 1 + d ≤ 20; omega) hc1
    refine ⟨ν2, ?_, r2, f1.trans f2, c2, ?_⟩
    · rw [fl_L_does_472, if_neg (nI_ge (by omega) (by omega)), rI_n (by omega) (by omega), rI_n (by omega) (by omega), rI_n (by omega) (by omega), (hs x hx).1, cx]
      simp only []
      rw [rI_n (by omega) (by omega), (hs j (by omega)).1, cj]
      simp only []
      rw [(hs x hx).2, (hs j (by omega)).2, pk_mul, dIn (by omega) ha0 ha, e1, bS_s, nI_1]
      exact e2
    · show (addWs (u.addW _ _ _) (gvL t v a x (j + 1) d)).nW = _
      rw [n2]
      show u.nW + 1 + d = _
      omega
/-- all of them -/
def gvA (t : Nt) (v a m : Nat) : Nat → Nat → List (Nat × Nat × Nat)
  | _, 0 => []
  | x, d + 1 => gvL t v a x (x + 1) (m - (x + 1)) ++ gvA t v a m (x + 1) d
theorem v_d459 (i : IN t) (hN : 100 ≤ N) {τ : Wd} {v m a : Nat} {ρ : Type} {K : Wd → Option ρ} (hs : SP τ t v m) (h3 : m ≤ 3) (hl : m ≤ (la t v).length) (ha0 : 0 < a) (ha : a < 2 ^ 31) : ∀ d x n (ν0 : Wd) (u : Nt), x + d = m → d < n → RQ ν0 u → u.nW + (gvA t v a m x d).length ≤ 20 → CS t u v m →
    ∃ ν', fl_L_does_459 N τ (nI m) (nI a) K n (nI x) ν0 = K ν' ∧ RQ ν' (addWs u (gvA t v a m x d)) ∧ FrL ν0 ν' := by
  intro d
  induction d with
  | zero =>
    intro x n ν0 u hx hn r _ _
    obtain ⟨n, rfl⟩ : ∃ m, n = m + 1 := ⟨n - 1, by omega⟩
    refine ⟨ν0, ?_, r, FrL.rfl' _⟩
    rw [fl_L_does_459, if_pos (nI_le (by omega) (by omega))]
  | succ d ih =>
    intro x n ν0 u hx hn r hu hc
    obtain ⟨n, rfl⟩ : ∃ m, n = m + 1 := ⟨n - 1, by omega⟩
    have eg : gvA t v a m x (d + 1) = gvL t v a x (x + 1) (m - (x + 1)) ++ gvA t v a m (x + 1) d := rfl
    rw [eg, List.length_append, gvL_len] at hu
    obtain ⟨ν1, e1, r1, f1, c1, n1⟩ := v_d472 (N := N) (K := fun s42 => fl_L_does_459 N τ (nI m) (nI a) K n (nI (x + 1)) s42) i hs h3 hl ha0 ha (show x < m by omega) (m - (x + 1)) (x + 1) N ν0 u (by omega) (by omega) r (by omega) hc
    obtain ⟨ν2, e2, r2, f2⟩ := ih (x + 1) n ν1 _ (by omega) (by omega) r1 (by rw [n1]; omega) c1
    refine ⟨ν2, ?_, by rw [eg, addWs_app]; exact r2, f1.trans f2⟩
    rw [fl_L_does_459, if_neg (nI_ge (by omega) (by omega))]
    simp only [lI]
    rw [nI_1]
    exact e1.trans e2
end kinds
