/-! THE LAW'S VALUES: the power, currents, potentials. -/
theorem smI_add {f g : Nat → Int} : ∀ n, smI (fun k => f k + g k) n = smI f n + smI g n
  | 0 => rfl
  | n + 1 => by
    show smI (fun k => f k + g k) n + (f n + g n) = (smI f n + f n) + (smI g n + g n)
    rw [smI_add n]; omega
theorem smI_mul {f : Nat → Int} {c : Int} : ∀ n, smI (fun k => c * f k) n = c * smI f n
  | 0 => (Int.mul_zero c).symm
  | n + 1 => by
    show smI (fun k => c * f k) n + c * f n = c * (smI f n + f n)
    rw [smI_mul n, Int.mul_add]
theorem smI_zero : ∀ n, smI (fun _ => 0) n = 0
  | 0 => rfl
  | n + 1 => by
    show smI (fun _ => 0) n + 0 = 0
    rw [smI_zero n]; rfl
/-- pairs, by the one of higher number, and by each -/
def pq1 (w : Nat → Nat → Int) (v : Nat → Int) (n : Nat) : Int := smI (fun a => smI (fun b => w a b * (v a - v b) * (v a - v b)) a) n
def pq2 (w : Nat → Nat → Int) (v : Nat → Int) (n : Nat) : Int := smI (fun a => v a * smI (fun b => if b ≠ a then (v a - v b) * w a b else 0) n) n
theorem pq_id {x y w : Int} : x * ((x - y) * w) + y * ((y - x) * w) = w * (y - x) * (y - x) := by
  have h1 : (x - y) * w = x * w - y * w := Int.sub_mul ..
  have h2 : (y - x) * w = y * w - x * w := Int.sub_mul ..
  have h3 : w * (y - x) = y * w - x * w := by rw [Int.mul_comm, h2]
  rw [h1, h2, h3, Int.mul_sub, Int.mul_sub, Int.mul_sub, Int.mul_comm (y * w - x * w) y, Int.mul_comm (y * w - x * w) x, Int.mul_sub, Int.mul_sub]
  omega
theorem pq_eq {w : Nat → Nat → Int} {v : Nat → Int} (hw : ∀ a b, a ≠ b → w a b = w b a) : ∀ n, pq1 w v n = pq2 w v n
  | 0 => rfl
  | n + 1 => by
    have ih := pq_eq (v := v) hw n
    have e1 : pq1 w v (n + 1) = pq1 w v n + smI (fun b => w n b * (v n - v b) * (v n - v b)) n := rfl
    have e2 : pq2 w v (n + 1) = smI (fun a => v a * smI (fun b => if b ≠ a then (v a - v b) * w a b else 0) (n + 1)) n + v n * smI (fun b => if b ≠ n then (v n - v b) * w n b else 0) (n + 1) := rfl
    have e3 : smI (fun a => v a * smI (fun b => if b ≠ a then (v a - v b) * w a b else 0) (n + 1)) n = pq2 w v n + smI (fun a => v a * ((v a - v n) * w n a)) n := by
      unfold pq2
      rw [← smI_add]
      refine smI_congr n (fun a ha => ?_)
      show v a * (smI _ n + (if n ≠ a then (v a - v n) * w a n else 0)) = _
      rw [if_pos (show n ≠ a by omega), Int.mul_add, hw a n (by omega)]
    have e4 : v n * smI (fun b => if b ≠ n then (v n - v b) * w n b else 0) (n + 1) = smI (fun b => v n * ((v n - v b) * w n b)) n := by
      show v n * (smI _ n + (if n ≠ n then (v n - v n) * w n n else 0)) = _
      rw [if_neg (by omega), Int.add_zero, ← smI_mul]
      refine smI_congr n (fun b hb => ?_)
      rw [if_pos (by omega)]
    rw [e1, e2, e3, e4, ih, Int.add_assoc, ← smI_add]
    congr 1
    exact smI_congr n (fun b _ => pq_id.symm)
theorem bmod32 {z : Int} (h1 : -198 ≤ z) (h2 : z ≤ 198) : z.bmod (2 ^ 32) = z := Int.bmod_eq_of_le (by omega) (by omega)
theorem sub_lZ {x y : Int32} (hx : -99 ≤ x.toInt ∧ x.toInt ≤ 99) (hy : -99 ≤ y.toInt ∧ y.toInt ≤ 99) : (x - y).toInt64 = lZ (x.toInt - y.toInt) := by
  rw [i64_lZ, Int32.toInt_sub, bmod32 (by omega) (by omega)]
/-- what the law finds for a pair -/
noncomputable def pwW (t : Nt) (a b : Nat) : Int := if t.ed.testBit a = true ∧ t.ed.testBit b = true then (cntC t (mn t.ed (2 ^ a)) a b : Int) else 0
theorem pwW_sym {t : Nt} (i : IN t) (a b : Nat) (h : a ≠ b) : pwW t a b = pwW t b a := by
  unfold pwW
  by_cases q : t.ed.testBit a = true ∧ t.ed.testBit b = true
  · rw [if_pos q, if_pos ⟨q.2, q.1⟩, cnt_sym i q.1 q.2 h]
  · rw [if_neg q, if_neg (fun z => q ⟨z.2, z.1⟩)]
theorem pow_pq {t : Nt} (i : IN t) (v : Nat → Int) : pow' t v = pq1 (pwW t) v 7 := by
  rw [pq_eq (pwW_sym i)]
  unfold pow' pq2
  refine smI_congr 7 (fun e _ => ?_)
  unfold powT
  by_cases he : t.ed.testBit e = true
  · rw [if_pos he]
    unfold cur
    congr 1
    refine smI_congr 7 (fun o _ => ?_)
    unfold curT pwW
    by_cases ho : t.ed.testBit o = true
    · by_cases q : o ≠ e
      · rw [if_pos ⟨q, ho⟩, if_pos q, if_pos ⟨he, ho⟩]
      · rw [if_neg (fun z => q z.1), if_neg q]
    · rw [if_neg (fun z => ho z.2)]
      split
      · rw [if_neg (fun z => ho z.2), Int.mul_zero]
      · rfl
  · rw [if_neg he]
    have : smI (fun b => if b ≠ e then (v e - v b) * pwW t e b else 0) 7 = 0 := by
      rw [← smI_zero 7]
      refine smI_congr 7 (fun b _ => ?_)
      unfold pwW
      split
      · rw [if_neg (fun z => he z.1), Int.mul_zero]
      · rfl
    rw [this, Int.mul_zero]
section vals
variable {N : Nat} {γ ν : Wd} {x1 : Int32} {x2 : Int64} {t : Nt}
theorem s42 {ρ : Type} {K : Int64 → Option ρ} (q : RQ ν t) (i : IN t) (hN : 200 ≤ N) {v : Nat → Int} (hv : ∀ j, j < 7 → -99 ≤ v j ∧ v j ≤ 99) (hν : ∀ j, j < 7 → (ν.1 9 j).toInt = v j) {x11 : Int32} {a : Nat} (ha : t.ed.testBit a = true) {z : Int} : ∀ d b n, b + d = a → d < n → fl_L_areValues_42 N γ ν x1 x2 x11 (nI a) K n (lZ (z + smI (fun b => pwW t a b * (v a - v b) * (v a - v b)) b)) (nI b) = K (lZ (z + smI (fun b => pwW t a b * (v a - v b) * (v a - v b)) a)) := by
  have h7 := i.ed7
  have a7 := bit7 h7 ha
  intro d
  induction d with
  | zero =>
    intro b n hb hn
    obtain ⟨n, rfl⟩ : ∃ m, n = m + 1 := ⟨n - 1, by omega⟩
    rw [fl_L_areValues_42, if_pos (nI_le (by omega) (by omega)), show b = a by omega]
  | succ d ih =>
    intro b n hb hn
    obtain ⟨n, rfl⟩ : ∃ m, n = m + 1 := ⟨n - 1, by omega⟩
    have ih' := ih (b + 1) n (by omega) (by omega)
    have e0 : smI (fun b => pwW t a b * (v a - v b) * (v a - v b)) (b + 1) = smI (fun b => pwW t a b * (v a - v b) * (v a - v b)) b + pwW t a b * (v a - v b) * (v a - v b) := rfl
    rw [e0] at ih'
    rw [fl_L_areValues_42, if_neg (nI_ge (by omega) (by omega)), ck_s (by omega), rg_1 q, rg_2 q, fa_and, nd_and i, jn_e, nI_1]
    by_cases hb' : t.ed.testBit b = true
    · have ew : pwW t a b = (cntC t (mn t.ed (2 ^ a)) a b : Int) := if_pos ⟨ha, hb'⟩
      rw [if_neg (fun z => by rw [(and_bit (by omega) (by omega)).mp z] at hb'; exact absurd hb' (by decide)), v_pair q i hN ha hb' (by omega), bP_s]
      rw [rI_n a7 (by omega), rI_n (by omega) (by omega), rI_n a7 (by omega), rI_n (by omega) (by omega), sub_lZ (by rw [hν a a7]; exact hv a a7) (by rw [hν b (by omega)]; exact hv b (by omega)), hν a a7, hν b (by omega), lN_lZ, lZ_mul, lZ_mul]
      simp only [lL]
      rw [lZ_add, Int.add_assoc, ← ew]
      exact ih'
    · have ew : pwW t a b = 0 := if_neg (fun z => hb' z.2)
      rw [if_pos ((and_bit (by omega) (by omega)).mpr (by simpa using hb'))]
      rw [ew, Int.zero_mul, Int.zero_mul, Int.add_zero] at ih'
      exact ih'
theorem s9 {ρ : Type} {K : Int64 → Option ρ} (q : RQ ν t) (i : IN t) (hN : 200 ≤ N) {v : Nat → Int} (hv : ∀ j, j < 7 → -99 ≤ v j ∧ v j ≤ 99) (hν : ∀ j, j < 7 → (ν.1 9 j).toInt = v j) : ∀ d a n x11, a + d = 7 → d < n → fl_L_areValues_9 N γ ν x1 x2 K n (lZ (pq1 (pwW t) v a)) x11 (nI a) = K (lZ (pow' t v)) := by
  have h7 := i.ed7
  intro d
  induction d with
  | zero =>
    intro a n x11 hb hn
    obtain ⟨n, rfl⟩ : ∃ m, n = m + 1 := ⟨n - 1, by omega⟩
    rw [fl_L_areValues_9, lq7, if_pos (nI_le (by omega) (by omega)), show a = 7 by omega, pow_pq i]
  | succ d ih =>
    intro a n x11 hb hn
    obtain ⟨n, rfl⟩ : ∃ m, n = m + 1 := ⟨n - 1, by omega⟩
    have e0 : pq1 (pwW t) v (a + 1) = pq1 (pwW t) v a + smI (fun b => pwW t a b * (v a - v b) * (v a - v b)) a := rfl
    rw [fl_L_areValues_9, lq7, if_neg (nI_ge (by omega) (by omega)), ck_s (by omega), rg_1 q, rg_2 q, fa_and, nd_and i]
    simp only [jn_p]
    rw [nI_1]
    by_cases ha : t.ed.testBit a = true
    · rw [if_neg (fun z => by rw [(and_bit0 (by omega) (by omega)).mp z] at ha; exact absurd ha (by decide))]
      have h42 := s42 (N := N) (γ := γ) (x1 := x1) (x2 := x2) (x11 := x11 + 1) (K := fun v14 => fl_L_areValues_9 N γ ν x1 x2 K n v14 (x11 + 1) (nI (a + 1))) q i hN hv hν ha (z := pq1 (pwW t) v a) a 0 7 (by omega) (by omega)
      have z0 : smI (fun b => pwW t a b * (v a - v b) * (v a - v b)) 0 = 0 := rfl
      rw [z0, Int.add_zero] at h42
      refine h42.trans ?_
      rw [← e0]
      exact ih (a + 1) n (x11 + 1) (by omega) (by omega)
    · rw [if_pos ((and_bit0 (by omega) (by omega)).mpr (by simpa using ha))]
      have ez : smI (fun b => pwW t a b * (v a - v b) * (v a - v b)) a = 0 := by
        rw [← smI_zero a]
        refine smI_congr a (fun b _ => ?_)
        have : pwW t a b = 0 := if_neg (fun z => ha z.1)
        rw [this, Int.zero_mul, Int.zero_mul]
      have := ih (a + 1) n x11 (by omega) (by omega)
      rw [e0, ez, Int.add_zero] at this
      exact this
theorem s206 {ρ : Type} {K : Int64 → Option ρ} (q : RQ ν t) (i : IN t) (hN : 200 ≤ N) {v : Nat → Int} (hv : ∀ j, j < 7 → -99 ≤ v j ∧ v j ≤ 99) (hν : ∀ j, j < 7 → (ν.1 9 j).toInt = v j) {e : Nat} (he : t.ed.testBit e = true) : ∀ d b n, b + d = 7 → d < n → fl_L_areValues_206 N γ ν (nI e) x2 K n (lZ (smI (curT t v e) b)) (nI b) = K (lZ (cur t v e)) := by
  have h7 := i.ed7
  have e7 := bit7 h7 he
  intro d
  induction d with
  | zero =>
    intro b n hb hn
    obtain ⟨n, rfl⟩ : ∃ m, n = m + 1 := ⟨n - 1, by omega⟩
    rw [fl_L_areValues_206, lq7, if_pos (nI_le (by omega) (by omega)), show b = 7 by omega]
    rfl
  | succ d ih =>
    intro b n hb hn
    obtain ⟨n, rfl⟩ : ∃ m, n = m + 1 := ⟨n - 1, by omega⟩
    have ih' := ih (b + 1) n (by omega) (by omega)
    have e0 : smI (curT t v e) (b + 1) = smI (curT t v e) b + curT t v e b := rfl
    rw [e0] at ih'
    rw [fl_L_areValues_206, lq7, if_neg (nI_ge (by omega) (by omega)), ck_s (by omega)]
    simp only [jn_p, rg_1 q, rg_2 q, fa_and, nd_and i]
    rw [nI_1]
    have skip : ¬ (b ≠ e ∧ t.ed.testBit b = true) → fl_L_areValues_206 N γ ν (nI e) x2 K n (lZ (smI (curT t v e) b)) (nI (b + 1)) = K (lZ (cur t v e)) := fun z => by
      have : curT t v e b = 0 := if_neg z
      rw [this, Int.add_zero] at ih'
      exact ih'
    by_cases hbe : b = e
    · rw [if_pos (by rw [hbe])]
      exact skip (fun z => z.1 hbe)
    · rw [if_neg (fun z => hbe ((nI_eq (by omega) (by omega)).mp z))]
      by_cases hb' : t.ed.testBit b = true
      · have ew : curT t v e b = (v e - v b) * (cntC t (mn t.ed (2 ^ e)) e b : Int) := if_pos ⟨hbe, hb'⟩
        rw [if_neg (fun z => by rw [(and_bit (by omega) (by omega)).mp z] at hb'; exact absurd hb' (by decide)), v_pair q i hN he hb' (fun z => hbe z.symm), bP_s]
        rw [rI_n e7 (by omega), rI_n (by omega) (by omega), sub_lZ (by rw [hν e e7]; exact hv e e7) (by rw [hν b (by omega)]; exact hv b (by omega)), hν e e7, hν b (by omega), lN_lZ, lZ_mul]
        simp only [lL]
        rw [lZ_add, Int.mul_comm, ← ew]
        exact ih'
      · rw [if_pos ((and_bit (by omega) (by omega)).mpr (by simpa using hb'))]
        exact skip (fun z => hb' z.2)
theorem s330 {ρ : Type} {K : Int64 → Option ρ} (q : RQ ν t) (i : IN t) (hN : 200 ≤ N) (he : t.ed ≠ 0) {v : Nat → Int} (hν : ∀ j, j < 7 → (ν.1 9 j).toInt = v j) {e : Nat} (hn : t.nd.testBit e = true) (hne : t.ed.testBit e = false) : ∀ d b n, b + d = 7 → d < n → fl_L_areValues_330 N γ ν (nI e) x2 K n (lZ (smI (potT t v e) b)) (nI b) = K (lZ (pot t v e)) := by
  have h7 := i.ed7
  have e7 := bit7 i.nd7 hn
  intro d
  induction d with
  | zero =>
    intro b n hb hn
    obtain ⟨n, rfl⟩ : ∃ m, n = m + 1 := ⟨n - 1, by omega⟩
    rw [fl_L_areValues_330, lq7, if_pos (nI_le (by omega) (by omega)), show b = 7 by omega]
    rfl
  | succ d ih =>
    intro b n hb hn'
    obtain ⟨n, rfl⟩ : ∃ m, n = m + 1 := ⟨n - 1, by omega⟩
    have ih' := ih (b + 1) n (by omega) (by omega)
    have e0 : smI (potT t v e) (b + 1) = smI (potT t v e) b + potT t v e b := rfl
    rw [e0] at ih'
    rw [fl_L_areValues_330, lq7, if_neg (nI_ge (by omega) (by omega)), ck_s (by omega), rg_1 q, rg_2 q, fa_and, nd_and i]
    simp only [jn_p]
    rw [nI_1]
    by_cases hb' : t.ed.testBit b = true
    · have ew : potT t v e b = v b * (cntC t t.ed e b : Int) := if_pos hb'
      rw [if_neg (fun z => by rw [(and_bit (by omega) (by omega)).mp z] at hb'; exact absurd hb' (by decide)), rI_n (by omega) (by omega), v_inner q, bP_s, v_minor1 q i hN (fun z hz => (mn_f hz).1) (inn_6 i he) (mn_t hn hne) (i.edn b hb') (by rw [mn_bit, hb']; simp), bP_s, inn_ed i, i64_lZ, hν b (by omega), lN_lZ, lZ_mul]
      simp only [lL]
      rw [lZ_add, ← ew]
      exact ih'
    · rw [if_pos ((and_bit (by omega) (by omega)).mpr (by simpa using hb'))]
      have ew : potT t v e b = 0 := if_neg hb'
      rw [ew, Int.add_zero] at ih'
      exact ih'
end vals
