/-! WHAT THE REFERENCE ASKS OF A FOREST, in the class's words: roots, and two nodes together. -/
theorem ct_eq1 {p : Nat → Bool} {n : Nat} : fb_ct p n = 1 ↔ (∀ i j, i < n → j < n → p i = true → p j = true → i = j) ∧ ∃ i, i < n ∧ p i = true := by
  rw [← ct_le1]
  constructor
  · intro h
    refine ⟨by omega, Classical.byContradiction fun q => ?_⟩
    have : fb_ct p n = 0 := fb_ct_zero.mpr (fun k hk => by
      cases hp : p k
      · rfl
      · exact absurd ⟨k, hk, hp⟩ q)
    omega
  · rintro ⟨h1, k, hk, hp⟩
    have : fb_ct p n ≠ 0 := fun h => by
      have := fb_ct_zero.mp h k hk
      rw [hp] at this
      exact absurd this (by decide)
    omega
theorem ct_pull (p : Nat → Bool) (i : Nat) : ∀ n, fb_ct p n = fb_ct (fun k => p k && !(k == i)) n + (if i < n ∧ p i = true then 1 else 0)
  | 0 => by rw [if_neg (fun h => absurd h.1 (Nat.not_lt_zero i))]; rfl
  | n + 1 => by
    rw [fb_ct_succ, fb_ct_succ, ct_pull p i n]
    by_cases e : n = i
    · subst e
      rw [if_neg (fun h => absurd h.1 (Nat.lt_irrefl _))]
      cases hp : p n <;> simp
    · have e2 : (n == i) = false := beq_false_of_ne e
      rw [e2]
      have h : (i < n + 1 ∧ p i = true) ↔ (i < n ∧ p i = true) := ⟨fun q => ⟨by omega, q.2⟩, fun q => ⟨by omega, q.2⟩⟩
      have h2 : (if i < n + 1 ∧ p i = true then 1 else 0) = (if i < n ∧ p i = true then 1 else 0) := by simp only [h]
      rw [h2]
      generalize (if i < n ∧ p i = true then 1 else 0) = z
      generalize fb_ct (fun k => p k && !(k == i)) n = w
      cases p n
      · simp
      · simp only [if_true, Bool.not_false, Bool.and_self]; omega
/-- the roots and the two nodes -/
def OKc (t : Nt) (R x y : Nat) (T : List Ed) : Prop := T.length + pc R = pc t.nd ∧ PD T (rts R) ∧ Cn T x y
theorem roots_iff {t : Nt} (i : IN t) {R : Nat} (hR : ∀ k, R.testBit k = true → t.nd.testBit k = true) {T : List Ed} (ha : Ac T) (hT : ∀ e ∈ T, e.1 ∈ rts t.nd ∧ e.2.1 ∈ rts t.nd) {s : Wd} {lab : Nat → Nat} (hl : LabM s lab T) :
    (∀ n, n < 7 → t.nd.testBit n = true → fb_ct (fun e => R.testBit e && lab e == lab n) 7 = 1) ↔ (T.length + pc R = pc t.nd ∧ PD T (rts R)) := by
  have hR7 : R < 128 := lt_of_bits (n := 7) (fun k hk => bit7 i.nd7 (hR k hk))
  have jr := just_rooted (Q := rts R) (V := rts t.nd) ha (rts_nodup R) (rts_nodup t.nd) (fun x hx => mem_rts.mpr ⟨(mem_rts.mp hx).1, hR x (mem_rts.mp hx).2⟩) hT
  rw [rts_len hR7, rts_len i.nd7] at jr
  have e : (T.length + pc R = pc t.nd ∧ PD T (rts R)) ↔ (PD T (rts R) ∧ pc t.nd = pc R + T.length) := ⟨fun h => ⟨h.2, by omega⟩, fun h => ⟨by omega, h.1⟩⟩
  rw [e, jr]
  constructor
  · intro h
    refine ⟨fun x hx y hy hxy => ?_, fun v hv => ?_⟩
    · obtain ⟨x7, xR⟩ := mem_rts.mp hx
      obtain ⟨y7, yR⟩ := mem_rts.mp hy
      have h1 := (ct_eq1.mp (h x x7 (hR x xR))).1 x y x7 y7
      refine h1 ?_ ?_
      · rw [xR]; simp
      · rw [yR, (hl.2 y x y7 x7).mpr hxy.symm]; simp
    · obtain ⟨v7, vn⟩ := mem_rts.mp hv
      obtain ⟨q, q7, hq⟩ := (ct_eq1.mp (h v v7 vn)).2
      rw [Bool.and_eq_true, beq_iff_eq] at hq
      exact ⟨q, mem_rts.mpr ⟨q7, hq.1⟩, (hl.2 v q v7 q7).mp hq.2.symm⟩
  · rintro ⟨h1, h2⟩ n hn hnd
    refine ct_eq1.mpr ⟨fun x y x7 y7 hx hy => ?_, ?_⟩
    · rw [Bool.and_eq_true, beq_iff_eq] at hx hy
      exact h1 x (mem_rts.mpr ⟨x7, hx.1⟩) y (mem_rts.mpr ⟨y7, hy.1⟩) ((hl.2 x y x7 y7).mp (hx.2.trans hy.2.symm))
    · obtain ⟨q, hq, hc⟩ := h2 n (mem_rts.mpr ⟨hn, hnd⟩)
      obtain ⟨q7, qR⟩ := mem_rts.mp hq
      refine ⟨q, q7, ?_⟩
      rw [qR, (hl.2 n q hn q7).mpr hc]
      simp
theorem parted_none {t : Nt} (i : IN t) {T : List Ed} (ha : Ac T) (hT : ∀ e ∈ T, e.1 ∈ rts t.nd ∧ e.2.1 ∈ rts t.nd) {s : Wd} {lab : Nat → Nat} (hl : LabM s lab T) :
    parted t lab none = true ↔ (T.length + pc t.ed = pc t.nd ∧ PD T (rts t.ed)) := by
  rw [← roots_iff i i.edn ha hT hl]
  unfold parted
  simp only [Bool.true_and, Option.map, due, al_iff]
  constructor
  · intro h n hn hnd
    have := h n (by omega) (by omega)
    rw [hnd] at this
    simpa [nE] using this
  · intro h n _ hn
    cases hnd : t.nd.testBit n
    · rfl
    · have := h n (by omega) hnd
      simpa [nE] using this
theorem parted_some {t : Nt} (i : IN t) {a b : Nat} (hae : t.ed.testBit a = true) (hb7 : b < 7) {T : List Ed} (ha : Ac T) (hT : ∀ e ∈ T, e.1 ∈ rts t.nd ∧ e.2.1 ∈ rts t.nd) {s : Wd} {lab : Nat → Nat} (hl : LabM s lab T) :
    parted t lab (some (a, b)) = true ↔ OKc t (mn t.ed (2 ^ a)) a b T := by
  have ha7 := bit7 i.ed7 hae
  have hmn : ∀ k, (mn t.ed (2 ^ a)).testBit k = (t.ed.testBit k && !(k == a)) := fun k => by
    rw [mn_bit, Nat.testBit_two_pow]
    congr 2
    by_cases h : a = k
    · subst h; simp
    · have h' : ¬ k = a := fun e => h e.symm
      simp [h, h']
  have key := roots_iff i (R := mn t.ed (2 ^ a)) (fun k hk => by rw [mn_bit, Bool.and_eq_true] at hk; exact i.edn k hk.1) ha hT hl
  have e : OKc t (mn t.ed (2 ^ a)) a b T ↔ (Cn T a b ∧ (T.length + pc (mn t.ed (2 ^ a)) = pc t.nd ∧ PD T (rts (mn t.ed (2 ^ a))))) := ⟨fun h => ⟨h.2.2, h.1, h.2.1⟩, fun h => ⟨h.2.1, h.2.2, h.1⟩⟩
  rw [e, ← key, ← hl.2 a b ha7 hb7]
  have cnt : ∀ n, (nE t lab (lab n) 7 = due lab (some a) n) ↔ fb_ct (fun e => (mn t.ed (2 ^ a)).testBit e && lab e == lab n) 7 = 1 := fun n => by
    have h1 := ct_pull (fun e => t.ed.testBit e && lab e == lab n) a 7
    have h2 : fb_ct (fun k => (t.ed.testBit k && lab k == lab n) && !(k == a)) 7 = fb_ct (fun e => (mn t.ed (2 ^ a)).testBit e && lab e == lab n) 7 := fb_ct_cong (fun k _ => by
      rw [hmn]
      cases t.ed.testBit k <;> cases (lab k == lab n) <;> cases (k == a) <;> rfl)
    rw [h2] at h1
    unfold nE
    rw [h1]
    show _ = (if lab n = lab a then 2 else 1) ↔ _
    by_cases q : lab n = lab a
    · rw [if_pos q, if_pos ⟨ha7, by rw [hae, q]; simp⟩]; omega
    · rw [if_neg q, if_neg (fun z => by
        have := z.2
        rw [hae] at this
        simp at this
        exact q this.symm)]; omega
  unfold parted
  simp only [Option.map]
  rw [Bool.and_eq_true, beq_iff_eq, al_iff]
  refine and_congr_right (fun _ => ?_)
  constructor
  · intro h n hn hnd
    have := h n (by omega) (by omega)
    rw [hnd] at this
    simp only [Bool.not_true, Bool.false_or, beq_iff_eq] at this
    exact (cnt n).mp this
  · intro h n _ hn
    cases hnd : t.nd.testBit n
    · rfl
    · simp only [Bool.not_true, Bool.false_or, beq_iff_eq]
      exact (cnt n).mpr (h n (by omega) hnd)
/-- two roots -/
theorem two_bit {a b k : Nat} : (2 ^ a ||| 2 ^ b).testBit k = true ↔ (k = a ∨ k = b) := by
  rw [Nat.testBit_or, Bool.or_eq_true, Nat.testBit_two_pow, Nat.testBit_two_pow, decide_eq_true_eq, decide_eq_true_eq]
  exact ⟨fun h => h.elim (fun e => Or.inl e.symm) (fun e => Or.inr e.symm), fun h => h.elim (fun e => Or.inl e.symm) (fun e => Or.inr e.symm)⟩
theorem pc_two : ∀ a b : Fin 7, a ≠ b → pc (2 ^ a.val ||| 2 ^ b.val) = 2 := by decide +kernel
theorem pc_one : ∀ a : Fin 7, pc (2 ^ a.val) = 1 := by decide +kernel
theorem two_lt {a b : Nat} (ha : a < 7) (hb : b < 7) : 2 ^ a ||| 2 ^ b < 128 := or_lt (n := 7) (Nat.pow_lt_pow_right (by decide) ha) (Nat.pow_lt_pow_right (by decide) hb)
theorem PD_two {a b : Nat} (ha : a < 7) (hb : b < 7) (hab : a ≠ b) {T : List Ed} : PD T (rts (2 ^ a ||| 2 ^ b)) ↔ ¬ Cn T a b := by
  constructor
  · intro h q
    exact hab (h a (mem_rts.mpr ⟨ha, two_bit.mpr (Or.inl rfl)⟩) b (mem_rts.mpr ⟨hb, two_bit.mpr (Or.inr rfl)⟩) q)
  · intro h x hx y hy hxy
    rcases two_bit.mp (mem_rts.mp hx).2 with rfl | rfl <;> rcases two_bit.mp (mem_rts.mp hy).2 with rfl | rfl
    · rfl
    · exact absurd hxy h
    · exact absurd hxy.symm h
    · rfl
theorem PD_one {a : Nat} {T : List Ed} : PD T (rts (2 ^ a)) := by
  intro x hx y hy _
  have h1 := (mem_rts.mp hx).2
  have h2 := (mem_rts.mp hy).2
  rw [Nat.testBit_two_pow, decide_eq_true_eq] at h1 h2
  omega
/-- the question of a count: which of the six, by its roots and two nodes -/
def Qst (t : Nt) (w a b c : Nat) (R x y : Nat) : Prop :=
  (w = 0 ∧ (∃ l, l < 7 ∧ R = 2 ^ l) ∧ x = y) ∨ (w = 1 ∧ R = t.ed ∧ x = y) ∨ (w = 2 ∧ R = mn t.ed (2 ^ a) ∧ x = a ∧ y = b ∧ t.ed.testBit a = true ∧ b < 7) ∨
  (w = 3 ∧ R = t.ed ∧ x = a ∧ y = b ∧ a < 7 ∧ b < 7) ∨ (w = 4 ∧ R = (2 ^ a ||| 2 ^ b) ∧ x = y ∧ a < 7 ∧ b < 7 ∧ a ≠ b) ∨ (w = 5 ∧ R = (2 ^ a ||| 2 ^ b) ∧ x = c ∧ y = a ∧ a < 7 ∧ b < 7 ∧ a ≠ b ∧ c < 7)
