/-! ERASED: the reference's, and both together. -/
section erased
variable {N : Nat} {σ τ : Wd} {t : Nt}
theorem m_dg {ρ : Type} {K : Int32 → Int32 → Wd → Option ρ} (i : IN t) : ∀ f w m (s : Wd) (fl th : Bool), w < 10 ^ f → w < 2 ^ 31 → f ≤ 10 → f < m → RM s t → s.1 0 0 = bI th →
    ∃ s', fl_X8_erased_27 N K m (nI (10 - f)) (bI fl) (nI w) s = K (nI (10 - f + (dg f w).length)) (bI (fl || (dg f w).any (fun d => d == 0))) s' ∧ s'.1 0 0 = bI (th || (dg f w).any (bad t)) ∧ (∀ j, j < (dg f w).length → s'.1 10 (10 - f + j) = nI (dd w j) - 1) ∧ (∀ j, j < 10 - f → s'.1 10 j = s.1 10 j) ∧ (∀ p, p ≠ 0 → p ≠ 10 → s'.1 p = s.1 p) ∧ (∀ k, k ≠ 0 → s'.1 0 k = s.1 0 k) ∧ s'.2 = s.2 := by
  have h7 := i.nd7
  intro f
  induction f with
  | zero =>
    intro w m s fl th hw _ hf hm r ht
    obtain ⟨m, rfl⟩ : ∃ e, m = e + 1 := ⟨m - 1, by omega⟩
    have hw0 : w = 0 := by simpa using hw
    subst hw0
    refine ⟨s, ?_, ?_, fun j hj => absurd hj (Nat.not_lt_zero j), fun j _ => rfl, fun p _ _ => rfl, fun k _ => rfl, rfl⟩
    · rw [fl_X8_erased_27, if_pos (by decide)]
      show _ = K (nI (10 - 0 + 0)) (bI (fl || false)) s
      rw [Bool.or_false]
    · rw [ht]
      show _ = bI (th || false)
      rw [Bool.or_false]
  | succ f ih =>
    intro w m s fl th hw hw31 hf hm r ht
    obtain ⟨m, rfl⟩ : ∃ e, m = e + 1 := ⟨m - 1, by omega⟩
    by_cases q : w = 0
    · subst q
      have e0 : dg (f + 1) 0 = [] := rfl
      rw [e0]
      refine ⟨s, ?_, ?_, fun j hj => absurd hj (Nat.not_lt_zero j), fun j _ => rfl, fun p _ _ => rfl, fun k _ => rfl, rfl⟩
      · rw [fl_X8_erased_27, if_pos (by decide)]
        show _ = K (nI (10 - (f + 1) + 0)) (bI (fl || false)) s
        rw [Bool.or_false]; rfl
      · rw [ht]
        show _ = bI (th || false)
        rw [Bool.or_false]
    · have e0 : dg (f + 1) w = w % 10 :: dg f (w / 10) := if_neg q
      have r1 : ∀ (v u : Int32) (j : Nat), RM (sI (sI s 0 0 v) 10 j u) t := fun v u j => (EqM.RM (EqM.thr s v) r).same (fun p hp => sI_place (by omega))
      have ht1 : ∀ (v u : Int32) (j : Nat), (sI (sI s 0 0 v) 10 j u).1 0 0 = v := fun v u j => by rw [sI_place (by omega)]; exact sI_same _ _ _ _
      obtain ⟨s', e1, g1, g2, g3, g4, g5, g6⟩ := ih (w / 10) m (sI (sI s 0 0 (bI (th || bad t (w % 10)))) 10 (10 - (f + 1)) (nI (w % 10) - 1)) (fl || (w % 10 == 0)) (th || bad t (w % 10)) (by rw [Nat.pow_succ] at hw; omega) (by omega) (by omega) (by omega) (r1 _ _ _) (ht1 _ _ _)
      rw [e0]
      refine ⟨s', ?_, ?_, fun j hj => ?_, fun j hj => ?_, fun p hp hp' => ?_, fun k hk => ?_, ?_⟩
      · rw [any_cons, ← Bool.or_assoc, List.length_cons, show 10 - (f + 1) + ((dg f (w / 10)).length + 1) = 10 - f + (dg f (w / 10)).length by omega, ← e1]
        rw [fl_X8_erased_27, if_neg (fun z => q ((nI_is0 hw31).mp z)), lq10, mI10 hw31]
        simp only [lI, jn_e, wI, gI]
        have step : ∀ v fv : Int32, (aI (sI s 0 0 v) 10 10 (nI (10 - (f + 1))) (nI (w % 10) - 1) fun s8 => dI (nI w) (nI 10) fun v9 => fl_X8_erased_27 N K m (nI (10 - (f + 1)) + 1) fv v9 s8) = fl_X8_erased_27 N K m (nI (10 - f)) fv (nI (w / 10)) (sI (sI s 0 0 v) 10 (10 - (f + 1)) (nI (w % 10) - 1)) := fun v fv => by
          rw [aI_n (by omega) (by omega), dI10 hw31, nI_1, show 10 - (f + 1) + 1 = 10 - f by omega]
        by_cases q2 : w % 10 = 0
        · have hb : bad t (w % 10) = false := by unfold bad; rw [q2]; rfl
          have hm1 : nI (w % 10) - 1 = -1 := by rw [q2]; rfl
          have hz : (w % 10 == 0) = true := beq_iff_eq.mpr q2
          rw [hb, Bool.or_false, hz, Bool.or_true]
          simp only [if_pos hm1, ht, ite_self, step]
          rfl
        · have hm1 : nI (w % 10) - 1 = nI (w % 10 - 1) := nI_m _ q2
          have hne : ¬ nI (w % 10) - 1 = -1 := by rw [hm1, nI_m1 (by omega)]; exact id
          have hz : (w % 10 == 0) = false := beq_false_of_ne q2
          have hb : bad t (w % 10) = !t.nd.testBit (w % 10 - 1) := by unfold bad; rw [hz]; rfl
          have hnode : f_X8_isNode N s (nI (w % 10) - 1) = some (bI (t.nd.testBit (w % 10 - 1))) := by rw [hm1, v_isNode8 r i, inS_n (by omega)]
          rw [hb, hz, Bool.or_false]
          simp only [if_neg hne, hnode, bP_s, if_bI0, ht, step]
          cases fl <;> cases t.nd.testBit (w % 10 - 1) <;> cases th <;> rfl
      · rw [g1, any_cons, Bool.or_assoc]
      · cases j with
        | zero =>
          rw [Nat.add_zero, g3 _ (by omega), sI_same, dd_zero]
        | succ j =>
          rw [show 10 - (f + 1) + (j + 1) = 10 - f + j by omega, g2 j (Nat.lt_of_succ_lt_succ hj), dd_succ]
      · rw [g3 j (by omega), sI_slot (by omega), sI_place (by omega)]
      · rw [g4 p hp hp', sI_place hp', sI_place hp]
      · rw [g5 k hk, sI_place (by omega), sI_slot hk]
      · rw [g6]; rfl
theorem m_rev {ρ : Type} {K : Wd → Option ρ} {n : Nat} (hn : n ≤ 10) (h : Nat → Int32) : ∀ d k m (s : Wd), k + d = n / 2 → d < m → (∀ j, j < n → s.1 10 j = if j < k ∨ n - 1 - k < j then h (n - 1 - j) else h j) →
    ∃ s', fl_X8_erased_140 N (nI n) K m (nI k) s = K s' ∧ (∀ j, j < n → s'.1 10 j = h (n - 1 - j)) ∧ (∀ p, p ≠ 10 → s'.1 p = s.1 p) ∧ s'.2 = s.2 := by
  intro d
  induction d with
  | zero =>
    intro k m s hk hm hc
    obtain ⟨m, rfl⟩ : ∃ e, m = e + 1 := ⟨m - 1, by omega⟩
    refine ⟨s, ?_, fun j hj => ?_, fun p _ => rfl, rfl⟩
    · rw [fl_X8_erased_140, lq2, dIn (by omega) (by omega) (by omega), if_pos (nI_le (by omega) (by omega))]
    · rw [hc j hj]
      by_cases q : j < k ∨ n - 1 - k < j
      · rw [if_pos q]
      · rw [if_neg q, show n - 1 - j = j by omega]
  | succ d ih =>
    intro k m s hk hm hc
    obtain ⟨m, rfl⟩ : ∃ e, m = e + 1 := ⟨m - 1, by omega⟩
    have c1 := hc k (by omega)
    rw [if_neg (by omega)] at c1
    have c2 := hc (n - 1 - k) (by omega)
    rw [if_neg (by omega)] at c2
    obtain ⟨s', e1, g1, g2, g3⟩ := ih (k + 1) m (sI (sI s 10 k (h (n - 1 - k))) 10 (n - 1 - k) (h k)) (by omega) (by omega) (fun j hj => by
      by_cases e : j = n - 1 - k
      · subst e
        rw [sI_same, if_pos (by omega), show n - 1 - (n - 1 - k) = k by omega]
      · rw [sI_slot e]
        by_cases e2 : j = k
        · subst e2
          rw [sI_same, if_pos (by omega)]
        · rw [sI_slot e2, hc j hj]
          by_cases q : j < k ∨ n - 1 - k < j
          · rw [if_pos q, if_pos (by omega)]
          · rw [if_neg q, if_neg (by omega)])
    refine ⟨s', ?_, g1, fun p hp => by rw [g2 p hp, sI_place hp, sI_place hp], g3⟩
    rw [fl_X8_erased_140, lq2, dIn (by omega) (by omega) (by omega), if_neg (nI_ge (by omega) (by omega)), show nI n - 1 = nI (n - 1) from nI_m n (by omega)]
    simp (disch := omega) only [pk_sub, rI_n, aI_n, c1, c2, nI_1]
    exact e1
theorem m_first {ρ : Type} {K : Int32 → Option ρ} {x1 x3 : Int32} {g : Nat → Nat} {n v k : Nat} (hn : n ≤ 10) (hc : ∀ j, j < n → τ.1 10 j = nI (g j)) (hg : ∀ j, j < n → g j < 7) (hv : v < 7) (hk : k ≤ n) : ∀ d x m, x + d = k → d < m → fl_X8_erases_60 N τ x1 (nI k) x3 (nI v) K m (nI x) = K (nI (fsP (fun i => g i == v) d x)) := by
  intro d
  induction d with
  | zero =>
    intro x m hx hm
    obtain ⟨m, rfl⟩ : ∃ e, m = e + 1 := ⟨m - 1, by omega⟩
    rw [fl_X8_erases_60, show x = k by omega, if_pos (nI_le (Nat.le_refl _) (by omega))]
    rfl
  | succ d ih =>
    intro x m hx hm
    obtain ⟨m, rfl⟩ : ∃ e, m = e + 1 := ⟨m - 1, by omega⟩
    have h1 := hg x (by omega)
    have e0 : fsP (fun i => g i == v) (d + 1) x = if (g x == v) = true then x else fsP (fun i => g i == v) d (x + 1) := rfl
    rw [fl_X8_erases_60, e0]
    simp (disch := omega) only [nI_leI, if_neg, rI_n, hc x (by omega), nI_eq, nI_1]
    by_cases q : g x = v
    · rw [if_pos q, if_pos (beq_iff_eq.mpr q)]
    · rw [if_neg q, if_neg (fun z => q (beq_iff_eq.mp z))]
      exact ih (x + 1) m (by omega) (by omega)
theorem m_erase44 {ρ : Type} {K : Int32 → Wd → Option ρ} (hN : 100 ≤ N) {n : Nat} (hn : n ≤ 10) : ∀ d s k m (τ : Wd) (g : Nat → Nat), s + d = n → k ≤ s → d < m → (∀ j, j < n → τ.1 10 j = nI (g j)) → (∀ j, j < n → g j < 7) →
    ∃ τ', fl_X8_erases_44 N (nI n) K m (nI k) (nI s) τ = K (nI (ersP d s k g).1) τ' ∧ (∀ j, j < n → τ'.1 10 j = nI ((ersP d s k g).2 j)) ∧ (ersP d s k g).1 ≤ n ∧ (∀ p, p ≠ 10 → τ'.1 p = τ.1 p) ∧ τ'.2 = τ.2 := by
  intro d
  induction d with
  | zero =>
    intro s k m τ g hs hk hm hc hg
    obtain ⟨m, rfl⟩ : ∃ e, m = e + 1 := ⟨m - 1, by omega⟩
    refine ⟨τ, ?_, hc, by show k ≤ n; omega, fun p _ => rfl, rfl⟩
    rw [fl_X8_erases_44, if_pos (nI_le (by omega) (by omega))]
    rfl
  | succ d ih =>
    intro s k m τ g hs hk hm hc hg
    obtain ⟨m, rfl⟩ : ∃ e, m = e + 1 := ⟨m - 1, by omega⟩
    have hgs := hg s (by omega)
    obtain ⟨-, q2, -, -⟩ := fsP_spec (fun i => g i == g s) k 0
    obtain ⟨τ', e1, g1, g2, g3, g4⟩ := ih (s + 1) (fsP (fun i => g i == g s) k 0 + 1) m (sI τ 10 (fsP (fun i => g i == g s) k 0) (nI (g s))) (upN g (fsP (fun i => g i == g s) k 0) (g s)) (by omega) (by omega) (by omega)
      (fun j hj => by
        by_cases e : j = fsP (fun i => g i == g s) k 0
        · rw [e, sI_same, upN_s]
        · rw [sI_slot e, upN_o e]; exact hc j hj)
      (upN_lt hg hgs)
    refine ⟨τ', ?_, g1, g2, fun p hp => by rw [g3 p hp, sI_place hp], g4⟩
    rw [fl_X8_erases_44]
    simp (disch := omega) only [nI_leI, if_neg, rI_n, hc s (by omega)]
    have hf := m_first (N := N) (τ := τ) (x1 := nI n) (x3 := nI s) (K := fun v6 => aI τ 10 10 v6 (nI (g s)) fun s7 => lI (v6 + 1) fun v8 => fl_X8_erases_44 N (nI n) K m v8 (nI s + 1) s7) hn hc hg hgs (show k ≤ n by omega) k 0 N (by omega) (by omega)
    refine Eq.trans hf ?_
    simp (disch := omega) only [aI_n, lI, nI_1]
    exact e1
theorem m_write {ρ : Type} {K : Int32 → Option ρ} {g : Nat → Nat} {k : Nat} (hk : k ≤ 10) (hc : ∀ j, j < k → τ.1 10 j = nI (g j)) : ∀ d s a m, s + d = k → d < m → fl_X8_erased_207 N τ (nI k) K m (nI a) (nI s) = K (nI (wvP d s a g)) := by
  intro d
  induction d with
  | zero =>
    intro s a m hs hm
    obtain ⟨m, rfl⟩ : ∃ e, m = e + 1 := ⟨m - 1, by omega⟩
    rw [fl_X8_erased_207, if_pos (nI_le (by omega) (by omega))]
    rfl
  | succ d ih =>
    intro s a m hs hm
    obtain ⟨m, rfl⟩ : ∃ e, m = e + 1 := ⟨m - 1, by omega⟩
    rw [fl_X8_erased_207, lq10]
    simp (disch := omega) only [nI_leI, if_neg, rI_n, hc s (by omega), lI, pk_mul, nI_add, nI_1]
    rw [show 10 * a + g s + 1 = a * 10 + g s + 1 by omega]
    exact ih (s + 1) (a * 10 + g s + 1) m (by omega) (by omega)
theorem m_check (r : RM τ t) (i : IN t) (hN : 100 ≤ N) {g : Nat → Nat} {n : Nat} {x2 : Int32} {K : Unit → Option (Int32 × Wd)} (hn : n ≤ 10) (hc : ∀ j, j < n → τ.1 10 j = nI (g j)) (hg : ∀ j, j < n → g j < 7) : ∀ d k m, k + d = n → 1 ≤ k → d < m → fl_X8_erases_4 N τ (nI n) x2 K m (nI k) = if al (fun s => jnd t (g (s - 1)) (g s)) d k = true then K () else some (-1, τ) := by
  intro d
  induction d with
  | zero =>
    intro k m hk h1 hm
    obtain ⟨m, rfl⟩ : ∃ e, m = e + 1 := ⟨m - 1, by omega⟩
    rw [fl_X8_erases_4, if_pos (nI_le (by omega) (by omega))]
    rfl
  | succ d ih =>
    intro k m hk h1 hm
    obtain ⟨m, rfl⟩ : ∃ e, m = e + 1 := ⟨m - 1, by omega⟩
    have e0 : al (fun s => jnd t (g (s - 1)) (g s)) (d + 1) k = (jnd t (g (k - 1)) (g k) && al (fun s => jnd t (g (s - 1)) (g s)) d (k + 1)) := rfl
    rw [fl_X8_erases_4, e0, show nI k - 1 = nI (k - 1) from nI_m k (by omega), if_neg (nI_ge (by omega) (by omega))]
    simp only [jn_e]
    rw [if_neg (nI_nle (n := k) (by omega) (by omega))]
    simp (disch := omega) only [rI_n, hc k (by omega), hc (k - 1) (by omega), nI_1]
    rw [v_areJoined r i hN (hg _ (by omega)) (hg _ (by omega)), bP_s, if_bI0]
    cases hj : jnd t (g (k - 1)) (g k)
    · rfl
    · rw [if_pos rfl, Bool.true_and]
      exact ih (k + 1) m (by omega) (by omega) (by omega)
theorem EqM.of10 {τ τ' : Wd} (h : ∀ p, p ≠ 0 → p ≠ 10 → τ'.1 p = τ.1 p) (h0 : ∀ k, k ≠ 0 → τ'.1 0 k = τ.1 0 k) (h2 : τ'.2 = τ.2) : EqM τ τ' := ⟨fun p h1 h2 => h p (by omega) (by omega), fun k h1 _ => h0 k (by omega), h2⟩
theorem sim_erased (h : RT σ τ t) (hN : 5000 ≤ N) (x : Int32) : SimX id (f_X7_erased N σ x) (f_X8_erased N τ x) := by
  have i := h.2.2.1
  have h7 := i.nd7
  by_cases h0 : x < 0
  · -- below 0 none is looked at
    have hx0 : x ≤ 0 := Int32.le_of_lt h0
    have hx1 : x < 1 := by rw [Int32.lt_iff_toInt_lt] at h0 ⊢; rw [show (0 : Int32).toInt = 0 from rfl] at h0; rw [show (1 : Int32).toInt = 1 from rfl]; omega
    obtain ⟨n, rfl⟩ : ∃ e, N = e + 1 := ⟨N - 1, by omega⟩
    refine ⟨σ, sI (sI τ 0 0 0) 0 0 2, ⟨t, h.eq (EqC.rfl' σ) ((EqM.thr τ 0).trans (EqM.thr _ 2))⟩, Or.inl ⟨2, 0, Or.inr (Or.inl rfl), ?_, ?_, thr_0 _ _⟩⟩
    · unfold f_X7_erased f_X6_hasStrangeNode f_X6_isWritten
      rw [fl_X6_hasStrangeNode_4, if_neg (by decide), if_pos hx0, bP_s, if_pos rfl, if_pos hx1, bP_s, if_pos rfl]
    · unfold f_X8_erased
      simp only [jn_e, wI, gI]
      rw [if_pos hx1, fl_X8_erased_27, if_pos hx0, thr_0, if_pos rfl, if_neg (by decide), thr_0, if_neg (by decide)]
  · obtain ⟨w, hw, rfl⟩ := nI_of h0
    have hst := v_strange (N := N) h.1 i 10 w N (by omega) hw (by omega) (by omega)
    rw [show nI (10 - 10) = 0 from rfl] at hst
    have hwr := v_isWritten (N := N) (by omega) hw
    obtain ⟨u1, l1, m1, m2, m3, m4, m5, m6⟩ := m_dg (N := N) (K := fun v12 v13 s14 =>
      gI s14 0 0 fun v15 =>
      jn (fun (v16 : Int32) => ((
        wI s14 0 0 v16 fun s17 =>
        gI s17 0 0 fun v18 =>
        if v18 ≤ 0 then (
          fl_X8_erased_140 N v12 (fun s24 =>
            bS (f_X8_erases N s24 v12) fun v25 s26 =>
            fl_X8_erased_207 N s26 v25 (fun v29 =>
              if v25 = (-1) then (
                some ((-1), s26))
              else (
                some (v29, s26))) N 0 0) N 0 s17)
        else (
          some (0, s17))) : Option (Int32 × Wd))) fun j125 =>
      jn (fun (_u : Unit) => ((
        gI s14 0 0 fun v30 =>
        j125 v30) : Option (Int32 × Wd))) fun j121 =>
      if v15 = 0 then (
        if v13 = 0 then (
          j121 ())
        else (
          j125 2))
      else (
        j121 ())) i 10 w N (sI τ 0 0 0) (!decide (1 ≤ w ∧ w ≤ 999999999)) false (by omega) hw (by omega) (by omega) ((EqM.thr τ 0).RM h.2.1) (thr_0 _ _)
    rw [Bool.false_or] at m1
    have eq1 : EqM τ u1 := (EqM.thr τ 0).trans (EqM.of10 m4 m5 m6)
    have fl : (!decide (1 ≤ w ∧ w ≤ 999999999) || (dg 10 w).any (fun d => d == 0)) = !wrt w := by
      unfold wrt
      rw [Bool.not_and, Bool.not_not]
    have hmod : f_X8_erased N τ (nI w) = (gI u1 0 0 fun v15 =>
      jn (fun (v16 : Int32) => ((
        wI u1 0 0 v16 fun s17 =>
        gI s17 0 0 fun v18 =>
        if v18 ≤ 0 then (
          fl_X8_erased_140 N (nI (10 - 10 + (dg 10 w).length)) (fun s24 =>
            bS (f_X8_erases N s24 (nI (10 - 10 + (dg 10 w).length))) fun v25 s26 =>
            fl_X8_erased_207 N s26 v25 (fun v29 =>
              if v25 = (-1) then (
                some ((-1), s26))
              else (
                some (v29, s26))) N 0 0) N 0 s17)
        else (
          some (0, s17))) : Option (Int32 × Wd))) fun j125 =>
      jn (fun (_u : Unit) => ((
        gI u1 0 0 fun v30 =>
        j125 v30) : Option (Int32 × Wd))) fun j121 =>
      if v15 = 0 then (
        if bI (!wrt w) = 0 then (
          j121 ())
        else (
          j125 2))
      else (
        j121 ())) := by
      rw [fl] at l1
      refine Eq.trans ?_ l1
      unfold f_X8_erased
      simp only [jn_e, wI]
      by_cases q1 : w = 0
      · rw [if_pos (show nI w < 1 by rw [q1]; decide), decide_eq_false (by omega)]; rfl
      · rw [if_neg (show ¬ nI w < 1 from nI_nlt (b := 1) (by omega) hw)]
        by_cases q2 : w ≤ 999999999
        · rw [if_pos (show nI w ≤ (999999999 : Int32) from nI_le (b := 999999999) q2 (by omega)), decide_eq_true ⟨by omega, q2⟩]; rfl
        · rw [if_neg (show ¬ nI w ≤ (999999999 : Int32) from nI_ge (a := 999999999) (by omega) hw), decide_eq_false (fun z => q2 z.2)]; rfl
    rw [hmod]
    unfold f_X7_erased f_X6_hasStrangeNode
    rw [hst, bP_s]
    simp only [gI, jn_e, wI, thr_0, m1, if_bI0]
    cases hs : (dg 10 w).any (bad t)
    · rw [hs] at m1
      rw [if_neg (by decide), hwr, bP_s]
      simp only [if_bI0]
      cases hww : wrt w
      · refine ⟨σ, sI u1 0 0 2, ⟨t, h.eq (EqC.rfl' σ) (eq1.trans (EqM.thr _ 2))⟩, Or.inl ⟨2, 0, Or.inr (Or.inl rfl), rfl, rfl, thr_0 _ _⟩⟩
      · have hwr' : (1 ≤ w ∧ w ≤ 999999999) ∧ (dg 10 w).any (fun d => d == 0) = false := by
          unfold wrt at hww
          rw [Bool.and_eq_true, decide_eq_true_eq, Bool.not_eq_true'] at hww
          exact hww
        obtain ⟨⟨w1, w2⟩, hz⟩ := hwr'
        have e9 : dg 10 w = dg 9 w := dg_more (f := 9) (by omega)
        have hn9 : (dg 9 w).length ≤ 9 := dg_len
        have hn1 : 1 ≤ (dg 9 w).length := dg_pos (f := 8) (by omega)
        generalize hn : (dg 9 w).length = n at hn9 hn1
        have hdig : ∀ j, j < n → dd w j ≠ 0 ∧ t.nd.testBit (dd w j - 1) = true := fun j hj => by
          have hm := dg_mem (f := 9) (w := w) (j := j) (by omega)
          rw [← e9] at hm
          have z1 : (dd w j == 0) = false := by
            rw [← Bool.not_eq_true]
            intro z
            rw [List.any_eq_false] at hz
            exact hz _ hm z
          have z2 : bad t (dd w j) = false := by
            rw [← Bool.not_eq_true]
            intro z
            rw [List.any_eq_false] at hs
            exact hs _ hm z
          refine ⟨fun z => by rw [z] at z1; exact absurd z1 (by decide), ?_⟩
          unfold bad at z2
          rw [z1] at z2
          cases hb : t.nd.testBit (dd w j - 1)
          · rw [hb] at z2; exact absurd z2 (by decide)
          · rfl
        have hg : ∀ j, j < n → dd w (n - 1 - j) - 1 < 7 := fun j hj => bit7 h7 (hdig (n - 1 - j) (by omega)).2
        have hgd : ∀ j, j < n → nI (dd w (n - 1 - j)) - 1 = nI (dd w (n - 1 - j) - 1) := fun j hj => nI_m _ (hdig (n - 1 - j) (by omega)).1
        obtain ⟨s1, c1, c2, c3⟩ := v_withoutLoops (N := N) h.1 i (by omega) (w := w) (n := n) (by omega) hn1 hn (g := fun j => dd w (n - 1 - j) - 1) hgd hg
        rw [c1, bS_s]
        have hc0 : EqC σ s1 := ⟨fun p hp => c2 p (by omega), by rw [c2 28 (by omega)], fun p _ => by rw [c3]⟩
        rw [e9, hn] at m2
        -- the reference
        obtain ⟨u2, k1, k2, k3, k4⟩ := m_rev (N := N) (n := n) (K := fun s24 =>
            bS (f_X8_erases N s24 (nI n)) fun v25 s26 =>
            fl_X8_erased_207 N s26 v25 (fun v29 =>
              if v25 = (-1) then (
                some ((-1), s26))
              else (
                some (v29, s26))) N 0 0) (by omega) (fun j => nI (dd w j) - 1) (n / 2) 0 N (sI u1 0 0 0) (by omega) (by omega) (fun j hj => by
              rw [if_neg (by omega), sI_place (by omega)]
              have := m2 j hj
              rw [show 10 - 10 + j = j by omega] at this
              exact this)
        have eq2 : EqM τ u2 := eq1.trans ((EqM.thr u1 0).trans (EqM.of10 (fun p _ hp => k3 p hp) (fun k _ => by rw [k3 0 (by omega)]) k4))
        have hc : ∀ j, j < n → u2.1 10 j = nI (dd w (n - 1 - j) - 1) := fun j hj => by rw [k2 j hj]; exact hgd j hj
        have h00 : u2.1 0 0 = 0 := by rw [k3 0 (by omega)]; exact thr_0 _ _
        have hck := m_check (N := N) (eq2.RM h.2.1) i (by omega) (n := n) (x2 := 0) (g := fun j => dd w (n - 1 - j) - 1) (K := fun (_ : Unit) => fl_X8_erases_44 N (nI n) (fun v9 s10 => some (v9, s10)) N 0 0 u2) (by omega) hc hg (n - 1) 1 (N - 1) (by omega) (by omega) (by omega)
        have hers : f_X8_erases N u2 (nI n) = fl_X8_erases_4 N u2 (nI n) 0 (fun (_ : Unit) => fl_X8_erases_44 N (nI n) (fun v9 s10 => some (v9, s10)) N 0 0 u2) (N - 1) 1 := by
          unfold f_X8_erases
          obtain ⟨m, hm⟩ : ∃ e, N = e + 1 := ⟨N - 1, by omega⟩
          have e : ∀ (y : Nat) (K : Unit → Option (Int32 × Wd)), fl_X8_erases_4 y u2 (nI n) 0 K (m + 1) 0 = fl_X8_erases_4 y u2 (nI n) 0 K m 1 := fun y K => by
            rw [fl_X8_erases_4, if_neg (show ¬ nI n ≤ (0 : Int32) from nI_ge (a := 0) (by omega) (by omega))]
            rfl
          have e' := e N (fun (_ : Unit) => fl_X8_erases_44 N (nI n) (fun v9 s10 => some (v9, s10)) N 0 0 u2)
          rw [← hm] at e'
          rw [show m = N - 1 by omega] at e'
          exact e'
        by_cases hal : al (fun s => jnd t (dd w (n - 1 - (s - 1)) - 1) (dd w (n - 1 - s) - 1)) (n - 1) 1 = true
        · obtain ⟨u3, y1, y2, y3, y4, y5⟩ := m_erase44 (N := N) (K := fun v9 s10 => some (v9, s10)) (by omega) (show n ≤ 10 by omega) n 0 0 N u2 (fun j => dd w (n - 1 - j) - 1) (by omega) (Nat.le_refl _) (by omega) hc hg
          have eq3 : EqM τ u3 := eq2.trans (EqM.of10 (fun p _ hp => y4 p hp) (fun k _ => by rw [y4 0 (by omega)]) y5)
          refine ⟨s1, u3, ⟨t, h.eq hc0 eq3⟩, Or.inr ⟨_, rfl, ?_, by rw [y4 0 (by omega)]; exact h00⟩⟩
          rw [if_pos hal]
          rw [if_pos hal] at hck
          have hers' : f_X8_erases N u2 (nI n) = some (nI (ersP n 0 0 (fun j => dd w (n - 1 - j) - 1)).1, u3) := hers.trans (hck.trans y1)
          have hwv := m_write (N := N) (τ := u3) (K := fun v29 => if nI (ersP n 0 0 (fun j => dd w (n - 1 - j) - 1)).1 = (-1) then some ((-1 : Int32), u3) else some (v29, u3)) (g := (ersP n 0 0 (fun j => dd w (n - 1 - j) - 1)).2) (k := (ersP n 0 0 (fun j => dd w (n - 1 - j) - 1)).1) (by omega) (fun j hj => y2 j (by omega)) (ersP n 0 0 (fun j => dd w (n - 1 - j) - 1)).1 0 0 N (by omega) (by omega)
          rw [e9, hn, show 10 - 10 + n = n by omega]
          refine Eq.trans k1 ?_
          rw [hers', bS_s]
          refine Eq.trans hwv ?_
          rw [if_neg (by rw [nI_m1 (by omega)]; exact id)]
        · refine ⟨s1, u2, ⟨t, h.eq hc0 eq2⟩, Or.inr ⟨_, rfl, ?_, h00⟩⟩
          rw [if_neg hal]
          rw [if_neg hal] at hck
          rw [e9, hn, show 10 - 10 + n = n by omega]
          refine Eq.trans k1 ?_
          rw [hers.trans hck, bS_s]
          obtain ⟨m, hm⟩ : ∃ e, N = e + 1 := ⟨N - 1, by omega⟩
          rw [hm, fl_X8_erased_207, if_pos (by decide)]
          rfl
    · rw [if_pos rfl]
      refine ⟨σ, sI u1 0 0 1, ⟨t, h.eq (EqC.rfl' σ) (eq1.trans (EqM.thr _ 1))⟩, Or.inl ⟨1, 0, Or.inl rfl, rfl, rfl, thr_0 _ _⟩⟩
end erased
