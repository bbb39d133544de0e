/-! COPIES of the law's rows. -/
theorem cp_4_0 {N : Nat} (hN : 100 ≤ N) (ν : Wd) : ∃ ν', f_L_copies_4_0 N ν = some ν' ∧ (∀ k, k < 6 → ν'.1 0 k = ν.1 4 k) ∧ (∀ p, p ≠ 0 → ν'.1 p = ν.1 p) ∧ ν'.2 = ν.2 := by
  have go : ∀ d k n (s : Wd), k + d = 6 → d < n → ∃ s', fl_L_copies_4_0_2 N (fun s3 => some s3) n (nI k) s = some s' ∧ (∀ j, k ≤ j → j < 6 → s'.1 0 j = s.1 4 j) ∧ (∀ j, j < k → s'.1 0 j = s.1 0 j) ∧ (∀ p, p ≠ 0 → s'.1 p = s.1 p) ∧ s'.2 = s.2 := by
    intro d
    induction d with
    | zero =>
      intro k n s hk hn
      obtain ⟨n, rfl⟩ : ∃ m, n = m + 1 := ⟨n - 1, by omega⟩
      refine ⟨s, ?_, fun j h1 h2 => by omega, fun j _ => rfl, fun p _ => rfl, rfl⟩
      rw [fl_L_copies_4_0_2, if_pos (show (6 : Int32) ≤ nI k from nI_le (a := 6) (by omega) (by omega))]
    | succ d ih =>
      intro k n s hk hn
      obtain ⟨n, rfl⟩ : ∃ m, n = m + 1 := ⟨n - 1, by omega⟩
      obtain ⟨s', e1, g1, g2, g3, g4⟩ := ih (k + 1) n (sI s 0 k (s.1 4 k)) (by omega) (by omega)
      refine ⟨s', ?_, fun j h1 h2 => ?_, fun j h => ?_, fun p hp => ?_, g4⟩
      · rw [fl_L_copies_4_0_2, if_neg (show ¬ (6 : Int32) ≤ nI k from nI_ge (b := 6) (by omega) (by omega)), rI_n (by omega) (by omega), aI_n (by omega) (by omega), nI_1]
        exact e1
      · by_cases e : j = k
        · subst e; rw [g2 j (by omega), sI_same]
        · rw [g1 j (by omega) h2, sI_place (by omega)]
      · rw [g2 j (by omega), sI_slot (by omega)]
      · rw [g3 p hp, sI_place hp]
  obtain ⟨s', e1, g1, g2, g3, g4⟩ := go 6 0 N ν (by omega) (by omega)
  exact ⟨s', e1, fun k hk => g1 k (Nat.zero_le _) hk, g3, g4⟩
theorem cp_5_1 {N : Nat} (hN : 100 ≤ N) (ν : Wd) : ∃ ν', f_L_copies_5_1 N ν = some ν' ∧ (∀ k, k < 20 → ν'.1 1 k = ν.1 5 k) ∧ (∀ p, p ≠ 1 → ν'.1 p = ν.1 p) ∧ ν'.2 = ν.2 := by
  have go : ∀ d k n (s : Wd), k + d = 20 → d < n → ∃ s', fl_L_copies_5_1_2 N (fun s3 => some s3) n (nI k) s = some s' ∧ (∀ j, k ≤ j → j < 20 → s'.1 1 j = s.1 5 j) ∧ (∀ j, j < k → s'.1 1 j = s.1 1 j) ∧ (∀ p, p ≠ 1 → s'.1 p = s.1 p) ∧ s'.2 = s.2 := by
    intro d
    induction d with
    | zero =>
      intro k n s hk hn
      obtain ⟨n, rfl⟩ : ∃ m, n = m + 1 := ⟨n - 1, by omega⟩
      refine ⟨s, ?_, fun j h1 h2 => by omega, fun j _ => rfl, fun p _ => rfl, rfl⟩
      rw [fl_L_copies_5_1_2, if_pos (show (20 : Int32) ≤ nI k from nI_le (a := 20) (by omega) (by omega))]
    | succ d ih =>
      intro k n s hk hn
      obtain ⟨n, rfl⟩ : ∃ m, n = m + 1 := ⟨n - 1, by omega⟩
      obtain ⟨s', e1, g1, g2, g3, g4⟩ := ih (k + 1) n (sI s 1 k (s.1 5 k)) (by omega) (by omega)
      refine ⟨s', ?_, fun j h1 h2 => ?_, fun j h => ?_, fun p hp => ?_, g4⟩
      · rw [fl_L_copies_5_1_2, if_neg (show ¬ (20 : Int32) ≤ nI k from nI_ge (b := 20) (by omega) (by omega)), rI_n (by omega) (by omega), aI_n (by omega) (by omega), nI_1]
        exact e1
      · by_cases e : j = k
        · subst e; rw [g2 j (by omega), sI_same]
        · rw [g1 j (by omega) h2, sI_place (by omega)]
      · rw [g2 j (by omega), sI_slot (by omega)]
      · rw [g3 p hp, sI_place hp]
  obtain ⟨s', e1, g1, g2, g3, g4⟩ := go 20 0 N ν (by omega) (by omega)
  exact ⟨s', e1, fun k hk => g1 k (Nat.zero_le _) hk, g3, g4⟩
theorem cp_6_2 {N : Nat} (hN : 100 ≤ N) (ν : Wd) : ∃ ν', f_L_copies_6_2 N ν = some ν' ∧ (∀ k, k < 20 → ν'.1 2 k = ν.1 6 k) ∧ (∀ p, p ≠ 2 → ν'.1 p = ν.1 p) ∧ ν'.2 = ν.2 := by
  have go : ∀ d k n (s : Wd), k + d = 20 → d < n → ∃ s', fl_L_copies_6_2_2 N (fun s3 => some s3) n (nI k) s = some s' ∧ (∀ j, k ≤ j → j < 20 → s'.1 2 j = s.1 6 j) ∧ (∀ j, j < k → s'.1 2 j = s.1 2 j) ∧ (∀ p, p ≠ 2 → s'.1 p = s.1 p) ∧ s'.2 = s.2 := by
    intro d
    induction d with
    | zero =>
      intro k n s hk hn
      obtain ⟨n, rfl⟩ : ∃ m, n = m + 1 := ⟨n - 1, by omega⟩
      refine ⟨s, ?_, fun j h1 h2 => by omega, fun j _ => rfl, fun p _ => rfl, rfl⟩
      rw [fl_L_copies_6_2_2, if_pos (show (20 : Int32) ≤ nI k from nI_le (a := 20) (by omega) (by omega))]
    | succ d ih =>
      intro k n s hk hn
      obtain ⟨n, rfl⟩ : ∃ m, n = m + 1 := ⟨n - 1, by omega⟩
      obtain ⟨s', e1, g1, g2, g3, g4⟩ := ih (k + 1) n (sI s 2 k (s.1 6 k)) (by omega) (by omega)
      refine ⟨s', ?_, fun j h1 h2 => ?_, fun j h => ?_, fun p hp => ?_, g4⟩
      · rw [fl_L_copies_6_2_2, if_neg (show ¬ (20 : Int32) ≤ nI k from nI_ge (b := 20) (by omega) (by omega)), rI_n (by omega) (by omega), aI_n (by omega) (by omega), nI_1]
        exact e1
      · by_cases e : j = k
        · subst e; rw [g2 j (by omega), sI_same]
        · rw [g1 j (by omega) h2, sI_place (by omega)]
      · rw [g2 j (by omega), sI_slot (by omega)]
      · rw [g3 p hp, sI_place hp]
  obtain ⟨s', e1, g1, g2, g3, g4⟩ := go 20 0 N ν (by omega) (by omega)
  exact ⟨s', e1, fun k hk => g1 k (Nat.zero_le _) hk, g3, g4⟩
theorem cp_7_3 {N : Nat} (hN : 100 ≤ N) (ν : Wd) : ∃ ν', f_L_copies_7_3 N ν = some ν' ∧ (∀ k, k < 20 → ν'.1 3 k = ν.1 7 k) ∧ (∀ p, p ≠ 3 → ν'.1 p = ν.1 p) ∧ ν'.2 = ν.2 := by
  have go : ∀ d k n (s : Wd), k + d = 20 → d < n → ∃ s', fl_L_copies_7_3_2 N (fun s3 => some s3) n (nI k) s = some s' ∧ (∀ j, k ≤ j → j < 20 → s'.1 3 j = s.1 7 j) ∧ (∀ j, j < k → s'.1 3 j = s.1 3 j) ∧ (∀ p, p ≠ 3 → s'.1 p = s.1 p) ∧ s'.2 = s.2 := by
    intro d
    induction d with
    | zero =>
      intro k n s hk hn
      obtain ⟨n, rfl⟩ : ∃ m, n = m + 1 := ⟨n - 1, by omega⟩
      refine ⟨s, ?_, fun j h1 h2 => by omega, fun j _ => rfl, fun p _ => rfl, rfl⟩
      rw [fl_L_copies_7_3_2, if_pos (show (20 : Int32) ≤ nI k from nI_le (a := 20) (by omega) (by omega))]
    | succ d ih =>
      intro k n s hk hn
      obtain ⟨n, rfl⟩ : ∃ m, n = m + 1 := ⟨n - 1, by omega⟩
      obtain ⟨s', e1, g1, g2, g3, g4⟩ := ih (k + 1) n (sI s 3 k (s.1 7 k)) (by omega) (by omega)
      refine ⟨s', ?_, fun j h1 h2 => ?_, fun j h => ?_, fun p hp => ?_, g4⟩
      · rw [fl_L_copies_7_3_2, if_neg (show ¬ (20 : Int32) ≤ nI k from nI_ge (b := 20) (by omega) (by omega)), rI_n (by omega) (by omega), aI_n (by omega) (by omega), nI_1]
        exact e1
      · by_cases e : j = k
        · subst e; rw [g2 j (by omega), sI_same]
        · rw [g1 j (by omega) h2, sI_place (by omega)]
      · rw [g2 j (by omega), sI_slot (by omega)]
      · rw [g3 p hp, sI_place hp]
  obtain ⟨s', e1, g1, g2, g3, g4⟩ := go 20 0 N ν (by omega) (by omega)
  exact ⟨s', e1, fun k hk => g1 k (Nat.zero_le _) hk, g3, g4⟩
theorem cp_0_4 {N : Nat} (hN : 100 ≤ N) (ν : Wd) : ∃ ν', f_L_copies_0_4 N ν = some ν' ∧ (∀ k, k < 6 → ν'.1 4 k = ν.1 0 k) ∧ (∀ p, p ≠ 4 → ν'.1 p = ν.1 p) ∧ ν'.2 = ν.2 := by
  have go : ∀ d k n (s : Wd), k + d = 6 → d < n → ∃ s', fl_L_copies_0_4_2 N (fun s3 => some s3) n (nI k) s = some s' ∧ (∀ j, k ≤ j → j < 6 → s'.1 4 j = s.1 0 j) ∧ (∀ j, j < k → s'.1 4 j = s.1 4 j) ∧ (∀ p, p ≠ 4 → s'.1 p = s.1 p) ∧ s'.2 = s.2 := by
    intro d
    induction d with
    | zero =>
      intro k n s hk hn
      obtain ⟨n, rfl⟩ : ∃ m, n = m + 1 := ⟨n - 1, by omega⟩
      refine ⟨s, ?_, fun j h1 h2 => by omega, fun j _ => rfl, fun p _ => rfl, rfl⟩
      rw [fl_L_copies_0_4_2, if_pos (show (6 : Int32) ≤ nI k from nI_le (a := 6) (by omega) (by omega))]
    | succ d ih =>
      intro k n s hk hn
      obtain ⟨n, rfl⟩ : ∃ m, n = m + 1 := ⟨n - 1, by omega⟩
      obtain ⟨s', e1, g1, g2, g3, g4⟩ := ih (k + 1) n (sI s 4 k (s.1 0 k)) (by omega) (by omega)
      refine ⟨s', ?_, fun j h1 h2 => ?_, fun j h => ?_, fun p hp => ?_, g4⟩
      · rw [fl_L_copies_0_4_2, if_neg (show ¬ (6 : Int32) ≤ nI k from nI_ge (b := 6) (by omega) (by omega)), rI_n (by omega) (by omega), aI_n (by omega) (by omega), nI_1]
        exact e1
      · by_cases e : j = k
        · subst e; rw [g2 j (by omega), sI_same]
        · rw [g1 j (by omega) h2, sI_place (by omega)]
      · rw [g2 j (by omega), sI_slot (by omega)]
      · rw [g3 p hp, sI_place hp]
  obtain ⟨s', e1, g1, g2, g3, g4⟩ := go 6 0 N ν (by omega) (by omega)
  exact ⟨s', e1, fun k hk => g1 k (Nat.zero_le _) hk, g3, g4⟩
theorem cp_1_5 {N : Nat} (hN : 100 ≤ N) (ν : Wd) : ∃ ν', f_L_copies_1_5 N ν = some ν' ∧ (∀ k, k < 20 → ν'.1 5 k = ν.1 1 k) ∧ (∀ p, p ≠ 5 → ν'.1 p = ν.1 p) ∧ ν'.2 = ν.2 := by
  have go : ∀ d k n (s : Wd), k + d = 20 → d < n → ∃ s', fl_L_copies_1_5_2 N (fun s3 => some s3) n (nI k) s = some s' ∧ (∀ j, k ≤ j → j < 20 → s'.1 5 j = s.1 1 j) ∧ (∀ j, j < k → s'.1 5 j = s.1 5 j) ∧ (∀ p, p ≠ 5 → s'.1 p = s.1 p) ∧ s'.2 = s.2 := by
    intro d
    induction d with
    | zero =>
      intro k n s hk hn
      obtain ⟨n, rfl⟩ : ∃ m, n = m + 1 := ⟨n - 1, by omega⟩
      refine ⟨s, ?_, fun j h1 h2 => by omega, fun j _ => rfl, fun p _ => rfl, rfl⟩
      rw [fl_L_copies_1_5_2, if_pos (show (20 : Int32) ≤ nI k from nI_le (a := 20) (by omega) (by omega))]
    | succ d ih =>
      intro k n s hk hn
      obtain ⟨n, rfl⟩ : ∃ m, n = m + 1 := ⟨n - 1, by omega⟩
      obtain ⟨s', e1, g1, g2, g3, g4⟩ := ih (k + 1) n (sI s 5 k (s.1 1 k)) (by omega) (by omega)
      refine ⟨s', ?_, fun j h1 h2 => ?_, fun j h => ?_, fun p hp => ?_, g4⟩
      · rw [fl_L_copies_1_5_2, if_neg (show ¬ (20 : Int32) ≤ nI k from nI_ge (b := 20) (by omega) (by omega)), rI_n (by omega) (by omega), aI_n (by omega) (by omega), nI_1]
        exact e1
      · by_cases e : j = k
        · subst e; rw [g2 j (by omega), sI_same]
        · rw [g1 j (by omega) h2, sI_place (by omega)]
      · rw [g2 j (by omega), sI_slot (by omega)]
      · rw [g3 p hp, sI_place hp]
  obtain ⟨s', e1, g1, g2, g3, g4⟩ := go 20 0 N ν (by omega) (by omega)
  exact ⟨s', e1, fun k hk => g1 k (Nat.zero_le _) hk, g3, g4⟩
theorem cp_2_6 {N : Nat} (hN : 100 ≤ N) (ν : Wd) : ∃ ν', f_L_copies_2_6 N ν = some ν' ∧ (∀ k, k < 20 → ν'.1 6 k = ν.1 2 k) ∧ (∀ p, p ≠ 6 → ν'.1 p = ν.1 p) ∧ ν'.2 = ν.2 := by
  have go : ∀ d k n (s : Wd), k + d = 20 → d < n → ∃ s', fl_L_copies_2_6_2 N (fun s3 => some s3) n (nI k) s = some s' ∧ (∀ j, k ≤ j → j < 20 → s'.1 6 j = s.1 2 j) ∧ (∀ j, j < k → s'.1 6 j = s.1 6 j) ∧ (∀ p, p ≠ 6 → s'.1 p = s.1 p) ∧ s'.2 = s.2 := by
    intro d
    induction d with
    | zero =>
      intro k n s hk hn
      obtain ⟨n, rfl⟩ : ∃ m, n = m + 1 := ⟨n - 1, by omega⟩
      refine ⟨s, ?_, fun j h1 h2 => by omega, fun j _ => rfl, fun p _ => rfl, rfl⟩
      rw [fl_L_copies_2_6_2, if_pos (show (20 : Int32) ≤ nI k from nI_le (a := 20) (by omega) (by omega))]
    | succ d ih =>
      intro k n s hk hn
      obtain ⟨n, rfl⟩ : ∃ m, n = m + 1 := ⟨n - 1, by omega⟩
      obtain ⟨s', e1, g1, g2, g3, g4⟩ := ih (k + 1) n (sI s 6 k (s.1 2 k)) (by omega) (by omega)
      refine ⟨s', ?_, fun j h1 h2 => ?_, fun j h => ?_, fun p hp => ?_, g4⟩
      · rw [fl_L_copies_2_6_2, if_neg (show ¬ (20 : Int32) ≤ nI k from nI_ge (b := 20) (by omega) (by omega)), rI_n (by omega) (by omega), aI_n (by omega) (by omega), nI_1]
        exact e1
      · by_cases e : j = k
        · subst e; rw [g2 j (by omega), sI_same]
        · rw [g1 j (by omega) h2, sI_place (by omega)]
      · rw [g2 j (by omega), sI_slot (by omega)]
      · rw [g3 p hp, sI_place hp]
  obtain ⟨s', e1, g1, g2, g3, g4⟩ := go 20 0 N ν (by omega) (by omega)
  exact ⟨s', e1, fun k hk => g1 k (Nat.zero_le _) hk, g3, g4⟩
theorem cp_3_7 {N : Nat} (hN : 100 ≤ N) (ν : Wd) : ∃ ν', f_L_copies_3_7 N ν = some ν' ∧ (∀ k, k < 20 → ν'.1 7 k = ν.1 3 k) ∧ (∀ p, p ≠ 7 → ν'.1 p = ν.1 p) ∧ ν'.2 = ν.2 := by
  have go : ∀ d k n (s : Wd), k + d = 20 → d < n → ∃ s', fl_L_copies_3_7_2 N (fun s3 => some s3) n (nI k) s = some s' ∧ (∀ j, k ≤ j → j < 20 → s'.1 7 j = s.1 3 j) ∧ (∀ j, j < k → s'.1 7 j = s.1 7 j) ∧ (∀ p, p ≠ 7 → s'.1 p = s.1 p) ∧ s'.2 = s.2 := by
    intro d
    induction d with
    | zero =>
      intro k n s hk hn
      obtain ⟨n, rfl⟩ : ∃ m, n = m + 1 := ⟨n - 1, by omega⟩
      refine ⟨s, ?_, fun j h1 h2 => by omega, fun j _ => rfl, fun p _ => rfl, rfl⟩
      rw [fl_L_copies_3_7_2, if_pos (show (20 : Int32) ≤ nI k from nI_le (a := 20) (by omega) (by omega))]
    | succ d ih =>
      intro k n s hk hn
      obtain ⟨n, rfl⟩ : ∃ m, n = m + 1 := ⟨n - 1, by omega⟩
      obtain ⟨s', e1, g1, g2, g3, g4⟩ := ih (k + 1) n (sI s 7 k (s.1 3 k)) (by omega) (by omega)
      refine ⟨s', ?_, fun j h1 h2 => ?_, fun j h => ?_, fun p hp => ?_, g4⟩
      · rw [fl_L_copies_3_7_2, if_neg (show ¬ (20 : Int32) ≤ nI k from nI_ge (b := 20) (by omega) (by omega)), rI_n (by omega) (by omega), aI_n (by omega) (by omega), nI_1]
        exact e1
      · by_cases e : j = k
        · subst e; rw [g2 j (by omega), sI_same]
        · rw [g1 j (by omega) h2, sI_place (by omega)]
      · rw [g2 j (by omega), sI_slot (by omega)]
      · rw [g3 p hp, sI_place hp]
  obtain ⟨s', e1, g1, g2, g3, g4⟩ := go 20 0 N ν (by omega) (by omega)
  exact ⟨s', e1, fun k hk => g1 k (Nat.zero_le _) hk, g3, g4⟩
/-- the rows of the beginning, copied back -/
theorem cp_back {N : Nat} (hN : 100 ≤ N) {ν : Wd} {t : Nt} (r : RB ν t) (i : IN t) {ρ : Type} (K : Wd → Option ρ) : ∃ ν', (bP (f_L_copies_4_0 N ν) fun s172 => bP (f_L_copies_5_1 N s172) fun s173 => bP (f_L_copies_6_2 N s173) fun s174 => bP (f_L_copies_7_3 N s174) fun s175 => K s175) = K ν' ∧ RQ ν' t ∧ (∀ p, 3 < p → ν'.1 p = ν.1 p) ∧ ν'.2 = ν.2 := by
  have hW := i.nW
  obtain ⟨a1, a2, a3, a4, a5, a6, a7, a8⟩ := r
  obtain ⟨s1, e1, g1, h1, k1⟩ := cp_4_0 (N := N) hN ν
  obtain ⟨s2, e2, g2, h2, k2⟩ := cp_5_1 (N := N) hN s1
  obtain ⟨s3, e3, g3, h3, k3⟩ := cp_6_2 (N := N) hN s2
  obtain ⟨s4, e4, g4, h4, k4⟩ := cp_7_3 (N := N) hN s3
  have z0 : ∀ k, k < 6 → s4.1 0 k = ν.1 4 k := fun k hk => by rw [h4 0 (by omega), h3 0 (by omega), h2 0 (by omega), g1 k hk]
  refine ⟨s4, ?_, ⟨?_, ?_, ?_, ?_, ?_, fun w hw => ?_, fun w hw => ?_, fun w hw => ?_⟩, fun p hp => ?_, by rw [k4, k3, k2, k1]⟩
  · rw [e1, bP_s, e2, bP_s, e3, bP_s, e4, bP_s]
  · rw [z0 0 (by omega)]; exact a1
  · rw [z0 1 (by omega)]; exact a2
  · rw [z0 2 (by omega)]; exact a3
  · rw [z0 3 (by omega)]; exact a4
  · rw [z0 4 (by omega)]; exact a5
  · rw [h4 1 (by omega), h3 1 (by omega), g2 w (by omega), h1 5 (by omega)]; exact a6 w hw
  · rw [h4 2 (by omega), g3 w (by omega), h2 6 (by omega), h1 6 (by omega)]; exact a7 w hw
  · rw [g4 w (by omega), h3 7 (by omega), h2 7 (by omega), h1 7 (by omega)]; exact a8 w hw
  · rw [h4 p (by omega), h3 p (by omega), h2 p (by omega), h1 p (by omega)]
/-- the rows kept as those of the beginning -/
theorem cp_keep {N : Nat} (hN : 100 ≤ N) {ν : Wd} {t : Nt} (r : RQ ν t) (i : IN t) {ρ : Type} (K : Wd → Option ρ) : ∃ ν', (bP (f_L_copies_0_4 N ν) fun s23 => bP (f_L_copies_1_5 N s23) fun s24 => bP (f_L_copies_2_6 N s24) fun s25 => bP (f_L_copies_3_7 N s25) fun s26 => K s26) = K ν' ∧ RB ν' t ∧ (∀ p, p < 4 ∨ 7 < p → ν'.1 p = ν.1 p) ∧ ν'.2 = ν.2 := by
  have hW := i.nW
  obtain ⟨s1, e1, g1, h1, k1⟩ := cp_0_4 (N := N) hN ν
  obtain ⟨s2, e2, g2, h2, k2⟩ := cp_1_5 (N := N) hN s1
  obtain ⟨s3, e3, g3, h3, k3⟩ := cp_2_6 (N := N) hN s2
  obtain ⟨s4, e4, g4, h4, k4⟩ := cp_3_7 (N := N) hN s3
  have z0 : ∀ k, k < 6 → s4.1 4 k = ν.1 0 k := fun k hk => by rw [h4 4 (by omega), h3 4 (by omega), h2 4 (by omega), g1 k hk]
  refine ⟨s4, ?_, ⟨?_, ?_, ?_, ?_, ?_, fun w hw => ?_, fun w hw => ?_, fun w hw => ?_⟩, fun p hp => ?_, by rw [k4, k3, k2, k1]⟩
  · rw [e1, bP_s, e2, bP_s, e3, bP_s, e4, bP_s]
  · rw [z0 0 (by omega)]; exact r.nN
  · rw [z0 1 (by omega)]; exact r.nd
  · rw [z0 2 (by omega)]; exact r.ed
  · rw [z0 3 (by omega)]; exact r.nW
  · rw [z0 4 (by omega)]; exact r.wr
  · rw [h4 5 (by omega), h3 5 (by omega), g2 w (by omega), h1 1 (by omega)]; exact r.f w hw
  · rw [h4 6 (by omega), g3 w (by omega), h2 2 (by omega), h1 2 (by omega)]; exact r.s w hw
  · rw [g4 w (by omega), h3 3 (by omega), h2 3 (by omega), h1 3 (by omega)]; exact r.c w hw
  · rw [h4 p (by omega), h3 p (by omega), h2 p (by omega), h1 p (by omega)]
