/-! SIMPLIFY, class and law. -/
theorem ck_s {ρ : Type} {n : Nat} {k : Option ρ} (h : n ≠ 0) : ck n k = k := if_neg h
section simp
variable {N L : Nat} {xs : Nat → Int32} {γ : Wd} {x14 x15 x16 x29 : Int32} {ρ : Type} {K : Int32 → Wd → Option ρ} {ν : Wd} {mk : Int32} {t : Nt}
theorem s679 (rq : RQ ν t) (i : IN t) {k w n : Nat} (hk : k ≤ 3) (hw : w < 20) (hn : n ≠ 0) (x : Int32) : fl_L_law_679 N L xs γ x14 x15 x16 x29 K (n + 1) x (nI (20 * k + w)) ν = if thB k t w = true then (bS (f_L_does N ν (nI k) (nI w)) fun v148 s149 => if v148 = 0 then fl_L_law_679 N L xs γ x14 x15 x16 x29 K n x (nI (20 * k + w + 1)) s149 else (rI s149 0 6 5 fun v150 => aI s149 0 6 5 (v150 + 1) fun s151 => aI s151 8 40 v150 (nI (32 * k + w)) fun s153 => fl_L_law_679 N L xs γ x14 x15 x16 x29 K n (x + 1) 0 s153)) else fl_L_law_679 N L xs γ x14 x15 x16 x29 K n x (nI (20 * k + w + 1)) ν := by
  have h7 := i.nd7
  have e1 : (20 * k + w) / 20 = k := by omega
  have e2 : (20 * k + w) % 20 = w := by omega
  rw [fl_L_law_679, if_neg (show ¬ (80 : Int32) ≤ nI (20 * k + w) from nI_ge (b := 80) (by omega) (by omega)), ck_s hn, show (20 : Int32) = nI 20 from rfl, dIn (by omega) (by omega) (by omega), mIn (by omega) (by omega) (by omega), e1, e2, v_isThere rq i (by omega) (by omega), bP_s]
  have hmI : ∀ {ρ' : Type} (K' : Int32 → Option ρ'), mI (nI (20 * k + w)) (nI 20) K' = K' (nI w) := fun K' => by rw [mIn (by omega) (by omega) (by omega), e2]
  simp only [jn_e, hmI]
  rw [if_bI0, nI_1, show (32 : Int32) = nI 32 from rfl, pk_mul, nI_add, show (-1 : Int32) + 1 = 0 by decide]
  have eb : (if (k == 0 || k == 1 || k == 5) = true then t.wr.testBit w else t.nd.testBit w) = thB k t w := rfl
  rw [eb]
  have e6 : ∀ X Y : Option ρ, (if nI k ≤ 1 then X else if 6 < nI w then Y else X) = if thB k t w = true ∨ nI k ≤ 1 ∨ ¬ 6 < nI w then X else Y := fun X Y => by
    by_cases q1 : nI k ≤ 1
    · rw [if_pos q1, if_pos (Or.inr (Or.inl q1))]
    · rw [if_neg q1]
      by_cases q2 : 6 < nI w
      · rw [if_pos q2]
        have hk2 : 2 ≤ k := by
          rcases Nat.lt_or_ge k 2 with z | z
          · exact absurd (nI_le (b := 1) (show k ≤ 1 by omega) (by omega)) q1
          · exact z
        have hw6 : 6 < w := by
          rcases Nat.lt_or_ge 6 w with z | z
          · exact z
          · exact absurd q2 (nI_nlt (a := 6) z (by omega))
        have ht : thB k t w = false := by
          have : thB k t w = t.nd.testBit w := by
            unfold thB
            rw [if_neg (by rcases (show k = 2 ∨ k = 3 by omega) with rfl | rfl <;> decide)]
          rw [this]
          exact Nat.testBit_lt_two_pow (Nat.lt_of_lt_of_le h7 (show 2 ^ 7 ≤ 2 ^ w from Nat.pow_le_pow_right (by decide) hw6))
        rw [if_neg (by rw [ht]; rintro (z | z | z); exact absurd z (by decide); exact q1 z; exact z q2)]
      · rw [if_neg q2, if_pos (Or.inr (Or.inr q2))]
  cases hb : thB k t w
  · rfl
  · rw [if_pos rfl, if_pos rfl]
    refine (e6 _ _).trans ?_
    rw [if_pos (Or.inl hb)]
theorem addWs_ed : ∀ (L : List (Nat × Nat × Nat)) (u : Nt), (addWs u L).ed = u.ed
  | [], _ => rfl
  | e :: L, u => addWs_ed L (u.addW e.1 e.2.1 e.2.2)
theorem app_ed (t : Nt) (M : Mv) : (t.app M).ed = t.ed := by
  unfold Nt.app Nt.base
  rw [addWs_ed]
  split <;> rfl
/-- no easy move of these, or the first one: d places on -/
def FsJ (N L : Nat) (xs : Nat → Int32) (t : Nt) (ν : Wd) (mk : Int32) (d p q : Nat) (P : Nat → Nat → Prop) (fC : (Wd → Option (Int32 × Wd)) → Option (Int32 × Wd)) : Prop :=
  (∃ σ', RT N σ' ν mk t True ∧ (∀ K, fC K = K σ') ∧ (∀ k w, P k w → thB k t w = true → pm t (plK k t w) = none) ∧ ∀ {ρ : Type} (γ : Wd) (x14 x15 x16 x29 : Int32) (K : Int32 → Wd → Option ρ) (n : Nat) (x : Int32), n ≠ 0 → fl_L_law_679 N L xs γ x14 x15 x16 x29 K (n + d) x (nI p) ν = fl_L_law_679 N L xs γ x14 x15 x16 x29 K n x (nI q) ν) ∨
  (∃ σ' ν' t' d', d' ≤ d ∧ RT N σ' ν' mk t' True ∧ (pc t'.wr < pc t.wr ∧ t'.ed = t.ed) ∧ (∀ K, fC K = some (1, σ')) ∧ (∃ k w, k ≤ 3 ∧ thB k t w = true ∧ pm t (plK k t w) ≠ none) ∧ ∀ {ρ : Type} (γ : Wd) (x14 x15 x16 x29 : Int32) (K : Int32 → Wd → Option ρ) (n : Nat) (x : Int32), n ≠ 0 → fl_L_law_679 N L xs γ x14 x15 x16 x29 K (n + d') x (nI p) ν = fl_L_law_679 N L xs γ x14 x15 x16 x29 K n (x + 1) 0 ν')
theorem firstJ (hN : 100 ≤ N) {k : Nat} (hk : k ≤ 3) : ∀ d w n (σ : Wd), w + d = 20 → d < n → RT N σ ν mk t True → FsJ N L xs t ν mk d (20 * k + w) (20 * k + 20) (fun k' w' => k' = k ∧ w ≤ w' ∧ w' < 20) (fun K => fl_X3_doFirstSimple_9 N (nI k) K n (nI w) σ) := by
  intro d
  induction d with
  | zero =>
    intro w n σ hw hn h
    obtain ⟨n, rfl⟩ : ∃ m, n = m + 1 := ⟨n - 1, by omega⟩
    refine Or.inl ⟨σ, h, fun K => ?_, fun k' w' h' => by omega, fun {ρ} γ x14 x15 x16 x29 K n x _ => by rw [show 20 * k + w = 20 * k + 20 by omega]; rfl⟩
    show fl_X3_doFirstSimple_9 N (nI k) K (n + 1) (nI w) σ = K σ
    rw [fl_X3_doFirstSimple_9, show w = 20 by omega, lq20, if_pos (nI_le (Nat.le_refl _) (by omega))]
  | succ d ih =>
    intro w n σ hw hn h
    obtain ⟨n, rfl⟩ : ∃ m, n = m + 1 := ⟨n - 1, by omega⟩
    have i := h.2.2.1
    have hlt : ¬ (20 : Int32) ≤ nI w := nI_ge (b := 20) (by omega) (by omega)
    have o7 := ofw7 (N := N) (k := k) (by omega)
    have eC : ∀ K, fl_X3_doFirstSimple_9 N (nI k) K (n + 1) (nI w) σ = if thB k t w = true then (bS (f_X3_doIfPossible N σ (nI k) (nI w)) fun v4 s5 => if v4 = 0 then fl_X3_doFirstSimple_9 N (nI k) K n (nI (w + 1)) s5 else some (1, s5)) else fl_X3_doFirstSimple_9 N (nI k) K n (nI (w + 1)) σ := fun K => by
      rw [fl_X3_doFirstSimple_9, if_neg hlt, o7, bP_s]
      simp only [jn_e, if_bI0]
      rw [v_hasNode h.1 i, v_hasWire h.1 i, inS_n (by omega), inS_n (by omega)]
      simp only [bP_s, if_bI0, nI_1]
      unfold thB
      cases (k == 0 || k == 1 || k == 5) <;> rfl
    have eL := fun {ρ : Type} (γ : Wd) (x14 x15 x16 x29 : Int32) (K : Int32 → Wd → Option ρ) (n : Nat) (hn : n ≠ 0) (x : Int32) => s679 (N := N) (L := L) (xs := xs) (γ := γ) (x14 := x14) (x15 := x15) (x16 := x16) (x29 := x29) (K := K) h.2.1 i hk (show w < 20 by omega) hn x
    cases hb : thB k t w
    · rw [hb] at eC
      simp only [hb] at eL
      rcases ih (w + 1) n σ (by omega) (by omega) h with ⟨σ', r, g1, g2, g3⟩ | ⟨σ', ν', t', d', hd, r, p, g1, g2, g3⟩
      · refine Or.inl ⟨σ', r, fun K => (eC K).trans (g1 K), fun k' w' h' hb' => ?_, fun {ρ} γ x14 x15 x16 x29 K n x hn => ?_⟩
        · by_cases e : w' = w
          · rw [h'.1, e, hb] at hb'; exact absurd hb' (by decide)
          · exact g2 k' w' ⟨h'.1, by omega, h'.2.2⟩ hb'
        · exact (eL γ x14 x15 x16 x29 K (n + d) (by omega) x).trans (g3 γ x14 x15 x16 x29 K n x hn)
      · refine Or.inr ⟨σ', ν', t', d' + 1, by omega, r, p, fun K => (eC K).trans (g1 K), g2, fun {ρ} γ x14 x15 x16 x29 K n x hn => ?_⟩
        exact (eL γ x14 x15 x16 x29 K (n + d') (by omega) x).trans (g3 γ x14 x15 x16 x29 K n x hn)
    · rw [hb] at eC
      simp only [hb] at eL
      rcases mv_both (N := N) h hN (show k ≤ 5 by omega) hb with ⟨ho, s1, e1, f1, d1⟩ | ⟨M, σ', ν', m, ho, m18, e1, e2, e3, rt, hpc⟩
      · rw [e1] at eC
        rw [d1] at eL
        rcases ih (w + 1) n s1 (by omega) (by omega) f1 with ⟨σ', r, g1, g2, g3⟩ | ⟨σ', ν', t', d', hd, r, p, g1, g2, g3⟩
        · refine Or.inl ⟨σ', r, fun K => (eC K).trans (g1 K), fun k' w' h' hb' => ?_, fun {ρ} γ x14 x15 x16 x29 K n x hn => ?_⟩
          · by_cases e : w' = w
            · rw [h'.1, e]; exact ho
            · exact g2 k' w' ⟨h'.1, by omega, h'.2.2⟩ hb'
          · exact (eL γ x14 x15 x16 x29 K (n + d) (by omega) x).trans (g3 γ x14 x15 x16 x29 K n x hn)
        · refine Or.inr ⟨σ', ν', t', d' + 1, by omega, r, p, fun K => (eC K).trans (g1 K), g2, fun {ρ} γ x14 x15 x16 x29 K n x hn => ?_⟩
          exact (eL γ x14 x15 x16 x29 K (n + d') (by omega) x).trans (g3 γ x14 x15 x16 x29 K n x hn)
      · rw [e1] at eC
        rw [e2] at eL
        refine Or.inr ⟨σ', _, _, 1, by omega, rt, ⟨hpc hk, app_ed _ _⟩, fun K => (eC K).trans ?_, ⟨k, w, hk, hb, by rw [ho]; simp⟩, fun {ρ} γ x14 x15 x16 x29 K n x hn => (eL γ x14 x15 x16 x29 K n hn x).trans ?_⟩
        · rw [if_pos rfl, bS_s, if_neg (by decide)]
        · rw [if_pos trivial, bS_s, if_neg (by decide), show (5 : Int32) = nI 5 from rfl, rI_n (by omega) (by omega), e3, aI_n (by omega) (by omega), nI_1, aI_n (by omega) (by omega)]
theorem firstJ2 (hN : 100 ≤ N) : ∀ d k n (σ : Wd), k + d = 4 → d < n → RT N σ ν mk t True → FsJ N L xs t ν mk (20 * d) (20 * k) 80 (fun k' w' => k ≤ k' ∧ k' ≤ 3 ∧ w' < 20) (fun K => fl_X3_doFirstSimple_2 N K n (nI k) σ) := by
  intro d
  induction d with
  | zero =>
    intro k n σ hk hn h
    obtain ⟨n, rfl⟩ : ∃ m, n = m + 1 := ⟨n - 1, by omega⟩
    have h3 : (3 : Int32) < nI k := nI_lt (a := 3) (by omega) (by omega)
    refine Or.inl ⟨σ, h, fun K => ?_, fun k' w' h' => by omega, fun {ρ} γ x14 x15 x16 x29 K n x _ => by rw [show 20 * k = 80 by omega]; rfl⟩
    show fl_X3_doFirstSimple_2 N K (n + 1) (nI k) σ = K σ
    rw [fl_X3_doFirstSimple_2, if_pos h3]
  | succ d ih =>
    intro k n σ hk hn h
    obtain ⟨n, rfl⟩ : ∃ m, n = m + 1 := ⟨n - 1, by omega⟩
    have h3 : ¬ (3 : Int32) < nI k := nI_nlt (a := 3) (by omega) (by omega)
    have eC : ∀ K, fl_X3_doFirstSimple_2 N K (n + 1) (nI k) σ = fl_X3_doFirstSimple_9 N (nI k) (fun s8 => fl_X3_doFirstSimple_2 N K n (nI (k + 1)) s8) N (nI 0) σ := fun K => by
      rw [fl_X3_doFirstSimple_2, if_neg h3, nI_1]; rfl
    rcases firstJ (N := N) (L := L) (xs := xs) hN (k := k) (by omega) 20 0 N σ (by omega) (by omega) h with ⟨σ1, r, g1, g2, g3⟩ | ⟨σ', ν', t', d', hd, r, p, g1, g2, g3⟩
    · rcases ih (k + 1) n σ1 (by omega) (by omega) r with ⟨σ', r', k1, k2, k3⟩ | ⟨σ', ν', t', d', hd, r', p, k1, k2, k3⟩
      · refine Or.inl ⟨σ', r', fun K => ((eC K).trans (g1 _)).trans (k1 K), fun k' w' h' hb' => ?_, fun {ρ} γ x14 x15 x16 x29 K n x hn => ?_⟩
        · by_cases e : k' = k
          · exact g2 k' w' ⟨e, Nat.zero_le _, h'.2.2⟩ hb'
          · exact k2 k' w' ⟨by omega, h'.2⟩ hb'
        · have a := g3 γ x14 x15 x16 x29 K (n + 20 * d) x (by omega)
          have b := k3 γ x14 x15 x16 x29 K n x hn
          rw [show n + 20 * (d + 1) = n + 20 * d + 20 by omega]
          exact a.trans b
      · refine Or.inr ⟨σ', ν', t', d' + 20, by omega, r', p, fun K => ((eC K).trans (g1 _)).trans (k1 K), k2, fun {ρ} γ x14 x15 x16 x29 K n x hn => ?_⟩
        have a := g3 γ x14 x15 x16 x29 K (n + d') x (by omega)
        have b := k3 γ x14 x15 x16 x29 K n x hn
        rw [show n + (d' + 20) = n + d' + 20 by omega]
        exact a.trans b
    · exact Or.inr ⟨σ', ν', t', d', by omega, r, p, fun K => (eC K).trans (g1 _), g2, g3⟩
theorem simp_loopJ (hN : 100 ≤ N) : ∀ p x n f (σ ν : Wd) (t : Nt), pc t.wr ≤ p → x + p < 20 → p < n → 81 * (p + 1) + 1 ≤ f → RT N σ ν mk t True →
    ∃ v σ' ν' t', (v < 20 ∧ t'.ed = t.ed) ∧ fl_X7_simplify_2 N (fun v3 s4 => some (v3, s4)) n (nI x) σ = some (nI v, σ') ∧ RT N σ' ν' mk t' True ∧ (∀ k w, k ≤ 3 → w < 20 → thB k t' w = true → pm t' (plK k t' w) = none) ∧
    ∀ {ρ : Type} (γ : Wd) (x14 x15 x16 x29 : Int32) (K : Int32 → Wd → Option ρ), fl_L_law_679 N L xs γ x14 x15 x16 x29 K f (nI x) 0 ν = K (nI v) ν' := by
  intro p
  induction p with
  | zero =>
    intro x n f σ ν t hp hx hn hf h
    obtain ⟨n, rfl⟩ : ∃ m, n = m + 1 := ⟨n - 1, by omega⟩
    have hlt : ¬ (20 : Int32) ≤ nI x := nI_ge (b := 20) (by omega) (by omega)
    rcases firstJ2 (N := N) (L := L) (xs := xs) hN 4 0 N σ (by omega) (by omega) h with ⟨σ1, r, g1, g2, g3⟩ | ⟨σ', ν', t', d', hd, r, p, g1, g2, g3⟩
    · have c : f_X3_doFirstSimple N σ = some (0, σ1) := g1 _
      refine ⟨x, σ1, ν, t, ⟨by omega, rfl⟩, ?_, r, fun k w hk hw => g2 k w ⟨Nat.zero_le _, hk, hw⟩, fun {ρ} γ x14 x15 x16 x29 K => ?_⟩
      · rw [fl_X7_simplify_2, if_neg hlt, c, bS_s, if_pos rfl]
      · have a := g3 γ x14 x15 x16 x29 K (f - 80) (nI x) (by omega)
        rw [show f - 80 + 20 * 4 = f by omega] at a
        refine a.trans ?_
        obtain ⟨f', hf'⟩ : ∃ m, f - 80 = m + 1 := ⟨f - 81, by omega⟩
        rw [hf', fl_L_law_679, if_pos (show (80 : Int32) ≤ nI 80 by decide)]
    · have := p.1; omega
  | succ p ih =>
    intro x n f σ ν t hp hx hn hf h
    obtain ⟨n, rfl⟩ : ∃ m, n = m + 1 := ⟨n - 1, by omega⟩
    have hlt : ¬ (20 : Int32) ≤ nI x := nI_ge (b := 20) (by omega) (by omega)
    rcases firstJ2 (N := N) (L := L) (xs := xs) hN 4 0 N σ (by omega) (by omega) h with ⟨σ1, r, g1, g2, g3⟩ | ⟨σ1, ν1, t', d', hd, r, ⟨hlt', hed'⟩, g1, g2, g3⟩
    · have c : f_X3_doFirstSimple N σ = some (0, σ1) := g1 _
      refine ⟨x, σ1, ν, t, ⟨by omega, rfl⟩, ?_, r, fun k w hk hw => g2 k w ⟨Nat.zero_le _, hk, hw⟩, fun {ρ} γ x14 x15 x16 x29 K => ?_⟩
      · rw [fl_X7_simplify_2, if_neg hlt, c, bS_s, if_pos rfl]
      · have a := g3 γ x14 x15 x16 x29 K (f - 80) (nI x) (by omega)
        rw [show f - 80 + 20 * 4 = f by omega] at a
        refine a.trans ?_
        obtain ⟨f', hf'⟩ : ∃ m, f - 80 = m + 1 := ⟨f - 81, by omega⟩
        rw [hf', fl_L_law_679, if_pos (show (80 : Int32) ≤ nI 80 by decide)]
    · have c : f_X3_doFirstSimple N σ = some (1, σ1) := g1 _
      obtain ⟨v, σ', ν', t2, e0, e1, e2, e3, e4⟩ := ih (x + 1) n (f - d') σ1 ν1 t' (by omega) (by omega) (by omega) (by omega) r
      refine ⟨v, σ', ν', t2, ⟨e0.1, e0.2.trans hed'⟩, ?_, e2, e3, fun {ρ} γ x14 x15 x16 x29 K => ?_⟩
      · rw [fl_X7_simplify_2, if_neg hlt, c, bS_s, if_neg (by decide), nI_1]; exact e1
      · have a := g3 γ x14 x15 x16 x29 K (f - d') (nI x) (by omega)
        rw [show f - d' + d' = f by omega] at a
        refine a.trans ?_
        rw [nI_1]
        exact e4 γ x14 x15 x16 x29 K
/-- simplify, and again -/
theorem l_simplify {σ : Wd} (h : RT N σ ν mk t True) (hN : 100 ≤ N) : ∃ v σ' ν' t' σ'', f_X7_simplify N σ = some (nI v, σ') ∧ (∀ {ρ : Type} (γ : Wd) (x14 x15 x16 x29 : Int32) (K : Int32 → Wd → Option ρ), fl_L_law_679 N L xs γ x14 x15 x16 x29 K 1100 0 0 ν = K (nI v) ν') ∧ f_X7_simplify N σ' = some (0, σ'') ∧ RT N σ'' ν' mk t' True ∧ t'.ed = t.ed := by
  have hf := h.2.2.1.few
  obtain ⟨v, σ', ν', t', e0, e1, e2, e3, e4⟩ := simp_loopJ (N := N) (L := L) (xs := xs) hN 12 0 N 1100 σ ν t hf (by omega) (by omega) (by omega) h
  rcases firstJ2 (N := N) (L := L) (xs := xs) hN 4 0 N σ' (by omega) (by omega) e2 with ⟨σ1, r, g1, g2, g3⟩ | ⟨σ1, ν1, t1, d', hd, r, hlt', g1, ⟨k, w, q1, q2, q3⟩, g3⟩
  · have c : f_X3_doFirstSimple N σ' = some (0, σ1) := g1 _
    refine ⟨v, σ', ν', t', σ1, e1, e4, ?_, r, e0.2⟩
    obtain ⟨n, rfl⟩ : ∃ m, N = m + 1 := ⟨N - 1, by omega⟩
    show fl_X7_simplify_2 (n + 1) (fun v3 s4 => some (v3, s4)) (n + 1) 0 σ' = _
    rw [fl_X7_simplify_2, if_neg (by decide), c, bS_s, if_pos rfl]
  · exact absurd (e3 k w q1 (thB_20 e2.2.2.1 q2) q2) q3
end simp
