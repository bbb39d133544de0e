/-! SETS OF WIRES AS LISTS, in the order of their numbers. -/
def hE (t : Nt) (w : Nat) (x : Nat × List Ed) : Nat × List Ed := (x.1 ||| 2 ^ w, t.g w :: x.2)
/-- the sets out of the first places -/
def enV (t : Nt) (V : Nat → Nat) : Nat → List (Nat × List Ed)
  | 0 => [(0, [])]
  | j + 1 => enV t V j ++ (enV t V j).map (hE t (V j))
noncomputable def gdF (R need : Nat) (T : List Ed) (x : Nat × List Ed) : Bool := decide (x.2.length = need) && Vd (okR R) T x.2
noncomputable def lsF (t : Nt) (V : Nat → Nat) (R need below : Nat) (T : List Ed) : List Nat := ((enV t V below).filter (gdF R need T)).map Prod.fst
theorem enV_len {t : Nt} {V : Nat → Nat} : ∀ {j : Nat} {x : Nat × List Ed}, x ∈ enV t V j → x.2.length ≤ j
  | 0, x, h => by
    rw [List.mem_singleton.mp h]; exact Nat.le_refl _
  | j + 1, x, h => by
    rcases List.mem_append.mp h with h | h
    · exact Nat.le_succ_of_le (enV_len h)
    · obtain ⟨y, hy, rfl⟩ := List.mem_map.mp h
      exact Nat.succ_le_succ (enV_len hy)
theorem enV_lt {t : Nt} {V : Nat → Nat} : ∀ {j : Nat} {x : Nat × List Ed}, (∀ i, i < j → V i < 20) → x ∈ enV t V j → x.1 < 2 ^ 20
  | 0, x, _, h => by
    rw [List.mem_singleton.mp h]; decide
  | j + 1, x, hV, h => by
    rcases List.mem_append.mp h with h | h
    · exact enV_lt (fun i hi => hV i (by omega)) h
    · obtain ⟨y, hy, rfl⟩ := List.mem_map.mp h
      exact or_lt (enV_lt (fun i hi => hV i (by omega)) hy) (Nat.pow_lt_pow_right (by decide) (hV j (by omega)))
theorem gdF_h {t : Nt} {R need w : Nat} {T : List Ed} (x : Nat × List Ed) : gdF R (need + 1) T (hE t w x) = (okR R (t.g w) T && gdF R need (t.g w :: T) x) := by
  show (decide (x.2.length + 1 = need + 1) && (okR R (t.g w) T && Vd (okR R) (t.g w :: T) x.2)) = (okR R (t.g w) T && (decide (x.2.length = need) && Vd (okR R) (t.g w :: T) x.2))
  have : decide (x.2.length + 1 = need + 1) = decide (x.2.length = need) := by
    by_cases h : x.2.length = need
    · rw [decide_eq_true h, decide_eq_true (by omega)]
    · rw [decide_eq_false h, decide_eq_false (by omega)]
  rw [this]
  cases okR R (t.g w) T <;> cases decide (x.2.length = need) <;> rfl
theorem gdF_0 {t : Nt} {R w : Nat} {T : List Ed} (x : Nat × List Ed) : gdF R 0 T (hE t w x) = false := by
  show (decide (x.2.length + 1 = 0) && _) = false
  rw [decide_eq_false (by omega)]; rfl
theorem lsF_zero {t : Nt} {V : Nat → Nat} {R : Nat} {T : List Ed} : ∀ below, lsF t V R 0 below T = [0]
  | 0 => rfl
  | b + 1 => by
    have ih := lsF_zero (t := t) (V := V) (R := R) (T := T) b
    unfold lsF at *
    show List.map Prod.fst (List.filter (gdF R 0 T) (enV t V b ++ (enV t V b).map (hE t (V b)))) = _
    rw [List.filter_append, List.map_append, ih, List.filter_map]
    have : List.filter (gdF R 0 T ∘ hE t (V b)) (enV t V b) = [] := List.filter_eq_nil_iff.mpr (fun x _ => by
      show ¬ gdF R 0 T (hE t (V b) x) = true
      rw [gdF_0]; decide)
    rw [this]; rfl
theorem lsF_succ {t : Nt} {V : Nat → Nat} {R need b : Nat} {T : List Ed} : lsF t V R (need + 1) (b + 1) T = lsF t V R (need + 1) b T ++ (if okR R (t.g (V b)) T = true then (lsF t V R need b (t.g (V b) :: T)).map (fun x => x ||| 2 ^ V b) else []) := by
  unfold lsF
  show List.map Prod.fst (List.filter (gdF R (need + 1) T) (enV t V b ++ (enV t V b).map (hE t (V b)))) = _
  rw [List.filter_append, List.map_append, List.filter_map]
  congr 1
  by_cases h : okR R (t.g (V b)) T = true
  · rw [if_pos h]
    have : List.filter (gdF R (need + 1) T ∘ hE t (V b)) (enV t V b) = List.filter (gdF R need (t.g (V b) :: T)) (enV t V b) := List.filter_congr (fun x _ => by
      show gdF R (need + 1) T (hE t (V b) x) = _
      rw [gdF_h, h, Bool.true_and])
    rw [this, List.map_map, List.map_map]
    rfl
  · rw [if_neg h]
    have : List.filter (gdF R (need + 1) T ∘ hE t (V b)) (enV t V b) = [] := List.filter_eq_nil_iff.mpr (fun x _ => by
      show ¬ gdF R (need + 1) T (hE t (V b) x) = true
      rw [gdF_h, Bool.eq_false_iff.mpr h, Bool.false_and]; decide)
    rw [this]; rfl
theorem lsF_few {t : Nt} {V : Nat → Nat} {R need b : Nat} {T : List Ed} (h : b < need) : lsF t V R need b T = [] := by
  unfold lsF
  have : List.filter (gdF R need T) (enV t V b) = [] := List.filter_eq_nil_iff.mpr (fun x hx => by
    have := enV_len hx
    unfold gdF
    rw [decide_eq_false (by omega), Bool.false_and]; decide)
  rw [this]; rfl
theorem lsF_lt {t : Nt} {V : Nat → Nat} {R need b : Nat} {T : List Ed} (hV : ∀ i, i < b → V i < 20) : ∀ x ∈ lsF t V R need b T, x < 2 ^ 20 := fun x hx => by
  obtain ⟨y, hy, rfl⟩ := List.mem_map.mp hx
  exact enV_lt hV (List.mem_filter.mp hy).1
/-- what the places from p on give -/
noncomputable def rsF (t : Nt) (V : Nat → Nat) (R need : Nat) (T : List Ed) : Nat → Nat → List Nat
  | 0, _ => []
  | r + 1, p => (if okR R (t.g (V p)) T = true then (lsF t V R need p (t.g (V p) :: T)).map (fun x => x ||| 2 ^ V p) else []) ++ rsF t V R need T r (p + 1)
theorem rsF_eq {t : Nt} {V : Nat → Nat} {R need : Nat} {T : List Ed} : ∀ r p, lsF t V R (need + 1) (p + r) T = lsF t V R (need + 1) p T ++ rsF t V R need T r p
  | 0, p => by show lsF t V R (need + 1) p T = _ ++ []; rw [List.append_nil]
  | r + 1, p => by
    rw [show p + (r + 1) = (p + 1) + r by omega, rsF_eq r (p + 1), lsF_succ, List.append_assoc]
    rfl
/-- the one at a place, or NONE; what is left to skip -/
def atI (L : List Nat) (q : Nat) : Int32 := if q < L.length then nI (L.getD q 0) else -1
def lfI (L : List Nat) (q : Nat) : Int32 := if q < L.length then -1 else nI (q - L.length)
theorem atI_left {L M : List Nat} {q : Nat} (h : q < L.length) : atI (L ++ M) q = atI L q := by
  unfold atI
  rw [if_pos h, if_pos (by rw [List.length_append]; omega)]
  congr 1
  rw [List.getD_eq_getElem?_getD, List.getD_eq_getElem?_getD, List.getElem?_append_left h]
theorem atI_right {L M : List Nat} {q : Nat} (h : L.length ≤ q) : atI (L ++ M) q = atI M (q - L.length) := by
  unfold atI
  rw [List.length_append]
  by_cases h2 : q - L.length < M.length
  · rw [if_pos h2, if_pos (by omega)]
    congr 1
    rw [List.getD_eq_getElem?_getD, List.getD_eq_getElem?_getD, List.getElem?_append_right h]
  · rw [if_neg h2, if_neg (by omega)]
theorem lfI_left {L M : List Nat} {q : Nat} (h : q < L.length) : lfI (L ++ M) q = lfI L q := by
  unfold lfI
  rw [if_pos h, if_pos (by rw [List.length_append]; omega)]
theorem lfI_right {L M : List Nat} {q : Nat} (h : L.length ≤ q) : lfI (L ++ M) q = lfI M (q - L.length) := by
  unfold lfI
  rw [List.length_append]
  by_cases h2 : q - L.length < M.length
  · rw [if_pos h2, if_pos (by omega)]
  · rw [if_neg h2, if_neg (by omega)]
    congr 1; omega
theorem getD_mem' {l : List Nat} {j : Nat} (h : j < l.length) : l.getD j 0 ∈ l := by
  rw [List.getD_eq_getElem?_getD, List.getElem?_eq_getElem h]
  exact List.getElem_mem h
theorem getD_map' {l : List Nat} {f : Nat → Nat} {j : Nat} (h : j < l.length) : (l.map f).getD j 0 = f (l.getD j 0) := by
  rw [List.getD_eq_getElem?_getD, List.getD_eq_getElem?_getD, List.getElem?_map, List.getElem?_eq_getElem h]
  rfl
/-- the sets of wires, by the wires themselves -/
def subP (t : Nt) (p : Nat → Bool) : Nat → List (Nat × List Ed)
  | 0 => [(0, [])]
  | m + 1 => if p m then subP t p m ++ (subP t p m).map (hE t m) else subP t p m
theorem enV_congr {t : Nt} {V V' : Nat → Nat} : ∀ {j : Nat}, (∀ i, i < j → V i = V' i) → enV t V j = enV t V' j
  | 0, _ => rfl
  | j + 1, h => by
    unfold enV
    rw [enV_congr (fun i hi => h i (by omega)), h j (by omega)]
theorem enV_pick {t : Nt} {p : Nat → Bool} : ∀ m, enV t (fun j => (pick p m).getD j 0) (pick p m).length = subP t p m
  | 0 => rfl
  | m + 1 => by
    have ih := enV_pick (t := t) (p := p) m
    unfold pick subP
    cases h : p m
    · simp only [Bool.false_eq_true, if_false]; exact ih
    · simp only [if_true]
      rw [List.length_append]
      show enV t _ ((pick p m).length + 1) = _
      unfold enV
      rw [enV_congr (V' := fun j => (pick p m).getD j 0) (fun i hi => getD_snoc hi), ih, getD_last]
theorem subP_in {t : Nt} {p : Nat → Bool} : ∀ {m : Nat} {x : Nat × List Ed}, x ∈ subP t p m → x.1 < 2 ^ m ∧ (∀ i, x.1.testBit i = true → p i = true) ∧ ∀ k, m ≤ k → x.2 = lst t x.1 k
  | 0, x, h => by
    rw [List.mem_singleton.mp h]
    refine ⟨by show 0 < 2 ^ 0; decide, fun i hi => absurd hi (by simp), fun k _ => ?_⟩
    show [] = lst t 0 k
    induction k with
    | zero => rfl
    | succ k ih => unfold lst; rw [Nat.zero_testBit]; exact ih (by omega)
  | m + 1, x, h => by
    have up : ∀ {a : Nat}, a < 2 ^ m → a < 2 ^ (m + 1) := fun h => Nat.lt_of_lt_of_le h (Nat.pow_le_pow_right (by decide) (by omega))
    unfold subP at h
    cases hp : p m
    · rw [hp] at h
      simp only [Bool.false_eq_true, if_false] at h
      obtain ⟨h1, h2, h3⟩ := subP_in h
      exact ⟨up h1, h2, fun k hk => h3 k (by omega)⟩
    · rw [hp] at h
      simp only [if_true] at h
      rcases List.mem_append.mp h with h | h
      · obtain ⟨h1, h2, h3⟩ := subP_in h
        exact ⟨up h1, h2, fun k hk => h3 k (by omega)⟩
      · obtain ⟨y, hy, rfl⟩ := List.mem_map.mp h
        obtain ⟨h1, h2, h3⟩ := subP_in hy
        refine ⟨or_lt (up h1) (Nat.pow_lt_pow_right (by decide) (by omega)), fun i hi => ?_, fun k hk => ?_⟩
        · rcases or_bit.mp hi with q | rfl
          · exact h2 i q
          · exact hp
        · show t.g m :: y.2 = lst t (y.1 ||| 2 ^ m) k
          have hlt : y.1 ||| 2 ^ m < 2 ^ (m + 1) := or_lt (up h1) (Nat.pow_lt_pow_right (by decide) (by omega))
          rw [lst_top hlt hk, lst, or_bit.mpr (Or.inr rfl), if_pos rfl, h3 m (Nat.le_refl _)]
          congr 1
          refine lst_low (fun i hi => ?_)
          rw [Nat.testBit_or, Nat.testBit_two_pow]
          simp [show ¬ m = i by omega]
theorem subP_drop {t : Nt} {p q : Nat → Bool} : ∀ (m : Nat) (F : Nat × List Ed → Bool), (∀ i, i < m → p i = true → q i = true) → (∀ i, i < m → q i = true → p i = false → ∀ x : Nat × List Ed, t.g i ∈ x.2 → F x = false) → (subP t q m).filter F = (subP t p m).filter F
  | 0, F, _, _ => rfl
  | k + 1, F, h1, h2 => by
    have e1 := subP_drop k F (fun i hi => h1 i (by omega)) (fun i hi => h2 i (by omega))
    unfold subP
    cases hq : q k
    · have hp : p k = false := by
        cases hp : p k
        · rfl
        · rw [h1 k (by omega) hp] at hq; exact absurd hq (by decide)
      rw [hp]
      simp only [Bool.false_eq_true, if_false]
      exact e1
    · cases hp : p k
      · simp only [Bool.false_eq_true, if_false, if_true]
        rw [List.filter_append, List.filter_map, e1]
        have : List.filter (F ∘ hE t k) (subP t q k) = [] := List.filter_eq_nil_iff.mpr (fun x _ => by
          show ¬ F (hE t k x) = true
          rw [h2 k (by omega) hq hp (hE t k x) List.mem_cons_self]; decide)
        rw [this]; simp
      · simp only [if_true]
        rw [List.filter_append, List.filter_append, List.filter_map, List.filter_map, e1, subP_drop k (F ∘ hE t k) (fun i hi => h1 i (by omega)) (fun i hi hq hp x hx => h2 i (by omega) hq hp _ (List.mem_cons_of_mem _ hx))]
theorem subP_inits {t : Nt} {W : Nat} : ∀ m, (subP t (fun w => W.testBit w) m).map Prod.fst = inits W m ++ [low2 W m]
  | 0 => by
    show [0] = [] ++ [low2 W 0]
    unfold low2
    simp [Nat.mod_one]
  | m + 1 => by
    have ih := subP_inits (t := t) (W := W) m
    have hl : low2 W m < 2 ^ m := Nat.mod_lt _ (Nat.two_pow_pos m)
    rw [low2_succ]
    unfold subP inits
    cases hb : W.testBit m
    · simp only [Bool.false_eq_true, if_false]; exact ih
    · simp only [if_true]
      rw [List.map_append, List.map_map]
      have : List.map (Prod.fst ∘ hE t m) (subP t (fun w => W.testBit w) m) = (inits W m ++ [low2 W m]).map (· + 2 ^ m) := by
        rw [← ih, List.map_map]
        refine List.map_congr_left (fun x hx => ?_)
        show x.1 ||| 2 ^ m = x.1 + 2 ^ m
        rw [add_high (subP_in hx).1]
      rw [this, ih, List.map_append, List.append_assoc, List.append_assoc]
      rfl
