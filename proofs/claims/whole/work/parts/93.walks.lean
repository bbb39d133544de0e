/-! ERASED: walks. -/
theorem dIn {ρ : Type} {a b : Nat} {K : Int32 → Option ρ} (ha : a < 2 ^ 31) (h0 : 0 < b) (hb : b < 2 ^ 31) : dI (nI a) (nI b) K = K (nI (a / b)) := by
  unfold dI
  rw [if_neg (fun e => by rw [lq0, nI_eq hb (by omega)] at e; omega), pk_div ha h0 hb]
theorem mIn {ρ : Type} {a b : Nat} {K : Int32 → Option ρ} (ha : a < 2 ^ 31) (h0 : 0 < b) (hb : b < 2 ^ 31) : mI (nI a) (nI b) K = K (nI (a % b)) := by
  unfold mI
  rw [if_neg (fun e => by rw [lq0, nI_eq hb (by omega)] at e; omega), pk_rem ha h0 hb]
/-- loops taken out, in place -/
def ersP : Nat → Nat → Nat → (Nat → Nat) → Nat × (Nat → Nat)
  | 0, _, k, g => (k, g)
  | d + 1, s, k, g => ersP d (s + 1) (fsP (fun i => g i == g s) k 0 + 1) (upN g (fsP (fun i => g i == g s) k 0) (g s))
/-- written as a number -/
def wvP : Nat → Nat → Nat → (Nat → Nat) → Nat
  | 0, _, a, _ => a
  | d + 1, s, a, g => wvP d (s + 1) (a * 10 + g s + 1) g
theorem upN_lt {g : Nat → Nat} {j v n b : Nat} (hg : ∀ i, i < n → g i < b) (hv : v < b) : ∀ i, i < n → upN g j v i < b := fun i hi => by
  by_cases e : i = j
  · rw [e, upN_s]; exact hv
  · rw [upN_o e]; exact hg i hi
section walks
variable {N : Nat} {σ τ : Wd} {t : Nt}
theorem v_first (hN : 100 ≤ N) {g : Nat → Nat} {n v k : Nat} (hn : n ≤ 9) (hc : ∀ j, j < n → σ.1 27 j = nI (g j)) (hg : ∀ j, j < n → g j < 7) (hv : v < 7) (hk : k ≤ n) : f_X6_firstComing N σ (nI v) (nI k) = some (nI (fsP (fun i => g i == v) k 0)) := by
  have go : ∀ d x m, x + d = k → d < m → fl_X6_firstComing_2 N σ (nI v) (nI k) (fun (_ : Unit) => some (nI k)) m (nI x) = some (nI (fsP (fun i => g i == v) d x)) := by
    intro d
    induction d with
    | zero =>
      intro x m hx hm
      obtain ⟨m, rfl⟩ : ∃ e, m = e + 1 := ⟨m - 1, by omega⟩
      rw [fl_X6_firstComing_2, show x = k by omega, if_pos (nI_le (Nat.le_refl _) (by omega))]
      rfl
    | succ d ih =>
      intro x m hx hm
      obtain ⟨m, rfl⟩ : ∃ e, m = e + 1 := ⟨m - 1, by omega⟩
      have h1 := hg x (by omega)
      have e0 : fsP (fun i => g i == v) (d + 1) x = if (g x == v) = true then x else fsP (fun i => g i == v) d (x + 1) := rfl
      rw [fl_X6_firstComing_2, e0]
      simp (disch := omega) only [lq9, nI_leI, if_neg, rI_n, hc x (by omega), nI_eq, nI_1]
      by_cases q : g x = v
      · rw [if_pos q, if_pos (beq_iff_eq.mpr q)]
      · rw [if_neg q, if_neg (fun z => q (beq_iff_eq.mp z))]
        exact ih (x + 1) m (by omega) (by omega)
  exact go k 0 N (by omega) (by omega)
theorem v_erase4 {ρ : Type} {K : Int32 → Wd → Option ρ} (hN : 100 ≤ N) {n : Nat} (hn : n ≤ 9) : ∀ d s k m (σ : Wd) (g : Nat → Nat), s + d = n → k ≤ s → d < m → (∀ j, j < n → σ.1 27 j = nI (g j)) → (∀ j, j < n → g j < 7) →
    ∃ σ', fl_X6_erase_4 N (nI n) K m (nI k) (nI s) σ = K (nI (ersP d s k g).1) σ' ∧ (∀ j, j < n → σ'.1 27 j = nI ((ersP d s k g).2 j)) ∧ (ersP d s k g).1 ≤ n ∧ (∀ p, p ≠ 27 → σ'.1 p = σ.1 p) ∧ σ'.2 = σ.2 := by
  intro d
  induction d with
  | zero =>
    intro s k m σ g hs hk hm hc hg
    obtain ⟨m, rfl⟩ : ∃ e, m = e + 1 := ⟨m - 1, by omega⟩
    refine ⟨σ, ?_, hc, by show k ≤ n; omega, fun p _ => rfl, rfl⟩
    rw [fl_X6_erase_4, if_pos (nI_le (by omega) (by omega))]
    rfl
  | succ d ih =>
    intro s k m σ g hs hk hm hc hg
    obtain ⟨m, rfl⟩ : ∃ e, m = e + 1 := ⟨m - 1, by omega⟩
    have hgs := hg s (by omega)
    obtain ⟨-, q2, -, -⟩ := fsP_spec (fun i => g i == g s) k 0
    have hf := v_first (N := N) hN hn hc hg hgs (show k ≤ n by omega)
    obtain ⟨σ', e1, g1, g2, g3, g4⟩ := ih (s + 1) (fsP (fun i => g i == g s) k 0 + 1) m (sI σ 27 (fsP (fun i => g i == g s) k 0) (nI (g s))) (upN g (fsP (fun i => g i == g s) k 0) (g s)) (by omega) (by omega) (by omega)
      (fun j hj => by
        by_cases e : j = fsP (fun i => g i == g s) k 0
        · rw [e, sI_same, upN_s]
        · rw [sI_slot e, upN_o e]; exact hc j hj)
      (upN_lt hg hgs)
    refine ⟨σ', ?_, g1, g2, fun p hp => by rw [g3 p hp, sI_place hp], g4⟩
    rw [fl_X6_erase_4]
    simp (disch := omega) only [lq9, nI_leI, if_neg, rI_n, hc s (by omega)]
    rw [hf, bP_s]
    simp (disch := omega) only [jn_e, lt0, if_false, nI_leI, if_neg, aI_n, nI_1]
    exact e1
theorem v_write {g : Nat → Nat} {k : Nat} (hk : k ≤ 9) (hc : ∀ j, j < k → σ.1 27 j = nI (g j)) (hN : 100 ≤ N) : f_X6_write N σ (nI k) = some (nI (wvP k 0 0 g)) := by
  have go : ∀ d s a m, s + d = k → d < m → fl_X6_write_4 N σ (nI k) (fun v3 => some v3) m (nI a) (nI s) = some (nI (wvP d s a g)) := by
    intro d
    induction d with
    | zero =>
      intro s a m hs hm
      obtain ⟨m, rfl⟩ : ∃ e, m = e + 1 := ⟨m - 1, by omega⟩
      rw [fl_X6_write_4, if_pos (nI_le (by omega) (by omega))]
      rfl
    | succ d ih =>
      intro s a m hs hm
      obtain ⟨m, rfl⟩ : ∃ e, m = e + 1 := ⟨m - 1, by omega⟩
      rw [fl_X6_write_4]
      simp (disch := omega) only [lq9, lq10, nI_leI, if_neg, rI_n, hc s (by omega), lI, pk_mul, nI_add, nI_1]
      exact ih (s + 1) (a * 10 + g s + 1) m (by omega) (by omega)
  exact go k 0 0 N (by omega) (by omega)
theorem v_check (r : RN σ t) (i : IN t) (hN : 100 ≤ N) {g : Nat → Nat} {n : Nat} {K : Unit → Option (Int32 × Wd)} (hn : n ≤ 9) (hc : ∀ j, j < n → σ.1 27 j = nI (g j)) (hg : ∀ j, j < n → g j < 7) : ∀ d k m, k + d = n → 1 ≤ k → d < m → fl_X6_withoutLoops_8 N σ (nI n) K m (nI k) = if al (fun s => jnd t (g (s - 1)) (g s)) d k = true then K () else some (-1, σ) := by
  intro d
  induction d with
  | zero =>
    intro k m hk h1 hm
    obtain ⟨m, rfl⟩ : ∃ e, m = e + 1 := ⟨m - 1, by omega⟩
    rw [fl_X6_withoutLoops_8, if_pos (nI_le (by omega) (by omega))]
    rfl
  | succ d ih =>
    intro k m hk h1 hm
    obtain ⟨m, rfl⟩ : ∃ e, m = e + 1 := ⟨m - 1, by omega⟩
    have e0 : al (fun s => jnd t (g (s - 1)) (g s)) (d + 1) k = (jnd t (g (k - 1)) (g k) && al (fun s => jnd t (g (s - 1)) (g s)) d (k + 1)) := rfl
    rw [fl_X6_withoutLoops_8, e0, show nI k - 1 = nI (k - 1) from nI_m k (by omega)]
    simp (disch := omega) only [lq9, nI_leI, if_neg, rI_n, hc k (by omega), hc (k - 1) (by omega), nI_1]
    rw [v_lb0 r i hN (hg _ (by omega)) (hg _ (by omega)), bP_s]
    cases hj : jnd t (g (k - 1)) (g k)
    · rw [oI_no hj, if_pos rfl]
      rfl
    · have hl := jnd_fsP.mp hj
      rw [oI_yes hj, if_neg (by rw [nI_m1 (by omega)]; exact id), Bool.true_and]
      exact ih (k + 1) m (by omega) (by omega) (by omega)
/-- the class's walk, with loops erased -/
theorem v_withoutLoops (r : RN σ t) (i : IN t) (hN : 100 ≤ N) {w n : Nat} (hw : w < 10 ^ 9) (h1 : 1 ≤ n) (hn : (dg 9 w).length = n) {g : Nat → Nat} (hgd : ∀ j, j < n → nI (dd w (n - 1 - j)) - 1 = nI (g j)) (hg : ∀ j, j < n → g j < 7) :
    ∃ σ', f_X6_withoutLoops N σ (nI w) = some (if al (fun s => jnd t (g (s - 1)) (g s)) (n - 1) 1 = true then nI (wvP (ersP n 0 0 g).1 0 0 (ersP n 0 0 g).2) else -1, σ') ∧ (∀ p, p ≠ 27 → σ'.1 p = σ.1 p) ∧ σ'.2 = σ.2 := by
  have hn9 : n ≤ 9 := by rw [← hn]; exact dg_len
  obtain ⟨s1, e1, g1, g2, g3, g4⟩ := v_read32 (N := N) (K := fun s7 => some (nI n, s7)) (x := nI n) n w N σ hn9 (by omega) (by omega)
  have hr : f_X6_read N σ (nI w) = some (nI n, s1) := by
    unfold f_X6_read
    have h := v_read4 (N := N) (σ := σ) (x := nI w) (K := fun v2 => lI (v2 - 1) fun v3 => fl_X6_read_32 N v2 (fun s7 => some (v2, s7)) N (nI w) v3 σ) 9 w N hw (by omega) (by omega) (by omega)
    rw [show nI (9 - 9) = 0 from rfl, hn, show 9 - 9 + n = n by omega] at h
    rw [h]
    exact e1
  have hc : ∀ j, j < n → s1.1 27 j = nI (g j) := fun j hj => by rw [g1 j hj]; exact hgd j hj
  unfold f_X6_withoutLoops
  rw [hr, bS_s]
  have hck := v_check (N := N) (r.same (fun p hp hp' => g2 p (by omega))) i hN (K := fun (_ : Unit) => bS (f_X6_erase N s1 (nI n)) fun v6 s7 => bP (f_X6_write N s7 v6) fun v8 => some (v8, s7)) hn9 hc hg (n - 1) 1 N (by omega) (by omega) (by omega)
  by_cases hal : al (fun s => jnd t (g (s - 1)) (g s)) (n - 1) 1 = true
  · obtain ⟨s2, e2, k1, k2, k3, k4⟩ := v_erase4 (N := N) (K := fun v6 s7 => some (v6, s7)) hN hn9 n 0 0 N s1 g (by omega) (Nat.le_refl _) (by omega) hc hg
    refine ⟨s2, ?_, fun p hp => (k3 p hp).trans (g2 p hp), k4.trans g4⟩
    rw [if_pos hal]
    refine Eq.trans hck ?_
    rw [if_pos hal]
    have e3 : f_X6_erase N s1 (nI n) = some (nI (ersP n 0 0 g).1, s2) := e2
    rw [e3, bS_s, v_write (by omega) (fun j hj => k1 j (by omega)) hN, bP_s]
  · refine ⟨s1, ?_, g2, g4⟩
    rw [if_neg hal]
    refine Eq.trans hck ?_
    rw [if_neg hal]
end walks
