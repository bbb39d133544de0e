/-! THE REFERENCE'S COUNTS, as sums over the sets of wires that are there. -/
theorem nI_m1 {a : Nat} (h : a < 2 ^ 31) : (nI a = -1) = False := eq_false (fun e => absurd (nI_pos h) (by rw [e]; decide))
theorem lst_len {t : Nt} {S : Nat} : ∀ m, (lst t S m).length = fb_ct (fun k => S.testBit k) m
  | 0 => rfl
  | m + 1 => by
    rw [fb_ct_succ, ← lst_len m, lst]
    split <;> rfl
theorem lst_top {t : Nt} {S n m : Nat} (hS : S < 2 ^ n) : n ≤ m → lst t S m = lst t S n := by
  intro h
  induction m with
  | zero => rw [show n = 0 by omega]
  | succ m ih =>
    rcases Nat.lt_or_ge m n with q | q
    · rw [show n = m + 1 by omega]
    · rw [← ih q, lst, Nat.testBit_lt_two_pow (Nat.lt_of_lt_of_le hS (Nat.pow_le_pow_right (by decide) q))]; rfl
abbrev ls (t : Nt) (S : Nat) : List Ed := lst t S 20
theorem rts_len {R : Nat} (h : R < 128) : (rts R).length = pc R := by
  rw [pc_upto (n := 7) h (by omega)]
  unfold rts
  have : ∀ n, ((List.range n).filter (fun i => R.testBit i)).length = fb_ct (fun k => R.testBit k) n := by
    intro n
    induction n with
    | zero => rfl
    | succ n ih =>
      rw [List.range_succ, List.filter_append, List.length_append, ih, fb_ct_succ]
      congr 1
      cases hb : R.testBit n <;> simp [hb]
  exact this 7
theorem ls_ends {t : Nt} (i : IN t) {S : Nat} (h : S &&& t.wr = S) : ∀ e ∈ ls t S, (e.1 < 7 ∧ e.2.1 < 7) ∧ (1 ≤ e.2.2 ∧ e.2.2 ≤ 60) ∧ e.1 ∈ rts t.nd ∧ e.2.1 ∈ rts t.nd := fun e he => by
  obtain ⟨w, _, h2, rfl⟩ := lst_mem he
  have hw : t.wr.testBit w = true := by
    rw [← h, Nat.testBit_and, Bool.and_eq_true] at h2; exact h2.2
  exact ⟨⟨i.fb w, i.sb w⟩, i.cb w hw, mem_rts.mpr ⟨i.fb w, (i.wf w hw).1⟩, mem_rts.mpr ⟨i.sb w, (i.wf w hw).2⟩⟩
theorem ls_few {t : Nt} (i : IN t) {S : Nat} (h : S &&& t.wr = S) (ha : Ac (ls t S)) : pc S ≤ pc t.nd := by
  have := ac_le (ls t S) [] (rts t.nd) ha List.nodup_nil (fun x hx => nomatch hx) (fun x hx => nomatch hx) (fun e he => (ls_ends i h e he).2.2)
  rw [rts_len i.nd7, lst_len] at this
  simp at this
  exact this
/-- all of a stretch -/
def al (p : Nat → Bool) : Nat → Nat → Bool
  | 0, _ => true
  | d + 1, k => p k && al p d (k + 1)
theorem al_iff {p : Nat → Bool} : ∀ {d k : Nat}, al p d k = true ↔ ∀ i, k ≤ i → i < k + d → p i = true
  | 0, k => ⟨fun _ i h1 h2 => absurd h2 (by omega), fun _ => rfl⟩
  | d + 1, k => by
    unfold al
    rw [Bool.and_eq_true, al_iff]
    constructor
    · rintro ⟨h1, h2⟩ i hi hl
      rcases Nat.lt_or_ge k i with q | q
      · exact h2 i q (by omega)
      · rw [show i = k by omega]; exact h1
    · intro h
      exact ⟨h k (Nat.le_refl _) (by omega), fun i h1 h2 => h i (by omega) (by omega)⟩
section mc
variable {N : Nat} {t : Nt}
theorem v_many (hN : 100 ≤ N) {S : Nat} (hS : S < 2 ^ 31) : f_X8_many N (nI S) = some (nI (pc S)) := by
  have go : ∀ d k n, k + d = 20 → d < n → fl_X8_many_4 N (nI S) (fun v2 => some v2) n (nI (fb_ct (fun k => S.testBit k) k)) (nI k) = some (nI (pc S)) := by
    intro d
    induction d with
    | zero =>
      intro k n hk hn
      obtain ⟨n, rfl⟩ : ∃ e, n = e + 1 := ⟨n - 1, by omega⟩
      rw [fl_X8_many_4, show k = 20 by omega, lq20, if_pos (nI_le (Nat.le_refl _) (by omega))]
      rfl
    | succ d ih =>
      intro k n hk hn
      obtain ⟨n, rfl⟩ : ∃ e, n = e + 1 := ⟨n - 1, by omega⟩
      rw [fl_X8_many_4]
      simp (disch := omega) only [lq20, nI_leI, if_neg, lI, c_in]
      rw [← nI_bN, nI_add, nI_1]
      exact ih (k + 1) n (by omega) (by omega)
  exact go 20 0 N (by omega) (by omega)
/-- how many edges have a label -/
def nE (t : Nt) (lab : Nat → Nat) (l k : Nat) : Nat := fb_ct (fun e => t.ed.testBit e && lab e == l) k
theorem v_cE2 {ρ : Type} {K : Wd → Option ρ} : ∀ d k n (s : Wd), k + d = 7 → d < n →
    ∃ s', fl_X8_countsEdges_2 N K n (nI k) s = K s' ∧ (∀ i, k ≤ i → i < 7 → s'.1 7 i = nI 0) ∧ (∀ i, i < k → s'.1 7 i = s.1 7 i) ∧ (∀ p, p ≠ 7 → s'.1 p = s.1 p) ∧ s'.2 = s.2 := by
  intro d
  induction d with
  | zero =>
    intro k n s hk hn
    obtain ⟨n, rfl⟩ : ∃ e, n = e + 1 := ⟨n - 1, by omega⟩
    refine ⟨s, ?_, fun j h1 h2 => by omega, fun j _ => rfl, fun p _ => rfl, rfl⟩
    rw [fl_X8_countsEdges_2]
    simp (disch := omega) only [lq7, nI_leI, if_pos]
  | succ d ih =>
    intro k n s hk hn
    obtain ⟨n, rfl⟩ : ∃ e, n = e + 1 := ⟨n - 1, by omega⟩
    obtain ⟨s', e1, g1, g2, g3, g4⟩ := ih (k + 1) n (sI s 7 k (nI 0)) (by omega) (by omega)
    refine ⟨s', ?_, fun j h1 h2 => ?_, fun j hj => ?_, fun p hp => ?_, g4⟩
    · rw [fl_X8_countsEdges_2]
      simp (disch := omega) only [lq7, nI_leI, if_neg, aI_n, nI_1]
      exact e1
    · by_cases e : j = k
      · subst e; rw [g2 j (by omega), sI_same]
      · exact g1 j (by omega) h2
    · rw [g2 j (by omega), sI_slot (by omega)]
    · rw [g3 p hp, sI_place hp]
theorem v_cE23 {ρ : Type} {K : Wd → Option ρ} (i : IN t) {lab : Nat → Nat} (hlab : ∀ i, i < 7 → lab i < 7) : ∀ d k n (s : Wd), k + d = 7 → d < n → RM s t → (∀ i, i < 7 → s.1 6 i = nI (lab i)) → (∀ l, l < 7 → s.1 7 l = nI (nE t lab l k)) →
    ∃ s', fl_X8_countsEdges_23 N K n (nI k) s = K s' ∧ (∀ l, l < 7 → s'.1 7 l = nI (nE t lab l 7)) ∧ (∀ p, p ≠ 7 → s'.1 p = s.1 p) ∧ s'.2 = s.2 := by
  have h7 := i.nd7
  have h7' := i.ed7
  intro d
  induction d with
  | zero =>
    intro k n s hk hn r hl h
    obtain ⟨n, rfl⟩ : ∃ e, n = e + 1 := ⟨n - 1, by omega⟩
    have hk : k = 7 := by omega
    subst hk
    refine ⟨s, ?_, h, fun p _ => rfl, rfl⟩
    rw [fl_X8_countsEdges_23, lq7, if_pos (nI_le (Nat.le_refl _) (by omega))]
  | succ d ih =>
    intro k n s hk hn r hl h
    obtain ⟨n, rfl⟩ : ∃ e, n = e + 1 := ⟨n - 1, by omega⟩
    have hk7 := hlab k (by omega)
    obtain ⟨s', e1, g1, g2, g3⟩ := ih (k + 1) n (sI s 7 (lab k) (nI (nE t lab (lab k) k + bN (t.ed.testBit k)))) (by omega) (by omega)
      (r.same (fun p hp => sI_place (by omega))) (fun i hi => by rw [sI_place (by omega)]; exact hl i hi)
      (fun l hl7 => by
        have e : nE t lab l (k + 1) = nE t lab l k + (if (t.ed.testBit k && lab k == l) = true then 1 else 0) := rfl
        by_cases q : l = lab k
        · subst q
          rw [sI_same, e]
          congr 2
          cases t.ed.testBit k <;> simp [bN]
        · rw [sI_slot q, h l hl7, e]
          have : (lab k == l) = false := beq_false_of_ne (fun e => q e.symm)
          rw [this, Bool.and_false]; rfl)
    refine ⟨s', ?_, g1, fun p hp => ?_, g3⟩
    · rw [fl_X8_countsEdges_23]
      simp (disch := omega) only [lq7, nI_leI, if_neg, rI_n, hl k (by omega), h _ hk7, gI, r.nd, r.ed, v_isIn8, bP_s, jn_e, if_bI0, nI_1, aI_n]
      rw [← e1]
      cases hb : t.ed.testBit k
      · have z : nI (nE t lab (lab k) k) + 0 = nI (nE t lab (lab k) k + bN false) := by rw [Int32.add_zero]; rfl
        rw [z]
        cases hn : t.nd.testBit k <;> rfl
      · rw [i.edn k hb]; rfl
    · rw [g2 p hp, sI_place hp]
theorem v_countsEdges (i : IN t) (hN : 100 ≤ N) {lab : Nat → Nat} {s : Wd} (r : RM s t) (hl : ∀ i, i < 7 → lab i < 7 ∧ s.1 6 i = nI (lab i)) :
    ∃ s', f_X8_countsEdges N s = some s' ∧ (∀ l, l < 7 → s'.1 7 l = nI (nE t lab l 7)) ∧ (∀ p, p ≠ 7 → s'.1 p = s.1 p) ∧ s'.2 = s.2 := by
  obtain ⟨s1, e1, g1, g2, g3, g4⟩ := v_cE2 (N := N) (K := fun s2 => fl_X8_countsEdges_23 N (fun s11 => some s11) N 0 s2) 7 0 N s (by omega) (by omega)
  obtain ⟨s2, e2, f1, f2, f3⟩ := v_cE23 (N := N) (K := fun s11 => some s11) i (fun x hx => (hl x hx).1) 7 0 N s1 (by omega) (by omega) (r.same (fun p hp => g3 p (by omega)))
    (fun x hx => by rw [g3 6 (by omega)]; exact (hl x hx).2) (fun l hl7 => g1 l (by omega) hl7)
  exact ⟨s2, e1.trans e2, f1, fun p hp => (f2 p hp).trans (g3 p hp), f3.trans g4⟩
/-- what a tree is due -/
def due (lab : Nat → Nat) (a : Option Nat) (n : Nat) : Nat := match a with
  | none => 1
  | some a => if lab n = lab a then 2 else 1
def aO (a : Option Nat) : Int32 := match a with
  | none => -1
  | some a => nI a
theorem v_aP33 {ρ : Type} {K : Int32 → Option ρ} (i : IN t) {lab : Nat → Nat} {a : Option Nat} (ha : ∀ x, a = some x → x < 7) {s : Wd} (r : RM s t) (hlab : ∀ i, i < 7 → lab i < 7 ∧ s.1 6 i = nI (lab i)) (h : ∀ l, l < 7 → s.1 7 l = nI (nE t lab l 7)) :
    ∀ d k n (b : Bool), k + d = 7 → d < n → fl_X8_areParted_33 N s (aO a) K n (bI b) (nI k) = K (bI (b && al (fun n => !t.nd.testBit n || (nE t lab (lab n) 7 == due lab a n)) d k)) := by
  have h7 := i.nd7
  intro d
  induction d with
  | zero =>
    intro k n b hk hn
    obtain ⟨n, rfl⟩ : ∃ e, n = e + 1 := ⟨n - 1, by omega⟩
    have hk : k = 7 := by omega
    subst hk
    rw [fl_X8_areParted_33, lq7, if_pos (nI_le (Nat.le_refl _) (by omega))]
    show _ = K (bI (b && true))
    rw [Bool.and_true]
  | succ d ih =>
    intro k n b hk hn
    obtain ⟨n, rfl⟩ : ∃ e, n = e + 1 := ⟨n - 1, by omega⟩
    obtain ⟨l1, l2⟩ := hlab k (by omega)
    have hnE : nE t lab (lab k) 7 ≤ 7 := fb_ct_le _ 7
    have e : al (fun n => !t.nd.testBit n || (nE t lab (lab n) 7 == due lab a n)) (d + 1) k = ((!t.nd.testBit k || (nE t lab (lab k) 7 == due lab a k)) && al (fun n => !t.nd.testBit n || (nE t lab (lab n) 7 == due lab a n)) d (k + 1)) := rfl
    rw [e, fl_X8_areParted_33]
    simp (disch := omega) only [lq7, nI_leI, if_neg, gI, r.nd, v_isIn8, bP_s, jn_e, if_bI0, nI_1, rI_n, l2, h _ l1]
    cases hn : t.nd.testBit k
    · simp only [Bool.false_eq_true, if_false, Bool.not_false, Bool.true_or, Bool.true_and]
      exact ih (k + 1) n b (by omega) (by omega)
    · simp only [if_true, Bool.not_true, Bool.false_or]
      have fin : ∀ u : Nat, u < 2 ^ 31 → due lab a k = u → (if b = true then (if nI (nE t lab (lab k) 7) = nI u then fl_X8_areParted_33 N s (aO a) K n 1 (nI (k + 1)) else fl_X8_areParted_33 N s (aO a) K n 0 (nI (k + 1))) else fl_X8_areParted_33 N s (aO a) K n 0 (nI (k + 1)))
          = K (bI (b && ((nE t lab (lab k) 7 == due lab a k) && al (fun n => !t.nd.testBit n || (nE t lab (lab n) 7 == due lab a n)) d (k + 1)))) := by
        intro u hu hd
        have t1 := ih (k + 1) n true (by omega) (by omega)
        have f1 := ih (k + 1) n false (by omega) (by omega)
        rw [bI_t] at t1
        rw [bI_f] at f1
        rw [hd]
        cases b
        · rw [if_neg (by decide), f1]; rfl
        · by_cases q : nE t lab (lab k) 7 = u
          · rw [if_pos rfl, if_pos (show nI (nE t lab (lab k) 7) = nI u by rw [q]), t1, beq_iff_eq.mpr q]; rfl
          · rw [if_pos rfl, if_neg (fun e => q ((nI_eq (by omega) hu).mp e)), f1, beq_false_of_ne q]; rfl
      cases a with
      | none =>
        rw [if_pos (show aO none = -1 from rfl)]
        exact fin 1 (by decide) rfl
      | some a =>
        have ha7 := ha a rfl
        obtain ⟨a1, a2⟩ := hlab a ha7
        simp (disch := omega) only [aO, nI_m1, if_false, rI_n, a2, nI_eq]
        by_cases q : lab k = lab a
        · rw [if_pos q]
          exact fin 2 (by decide) (if_pos q)
        · rw [if_neg q]
          exact fin 1 (by decide) (if_neg q)
/-- the value of areParted -/
def parted (t : Nt) (lab : Nat → Nat) (ab : Option (Nat × Nat)) : Bool := (match ab with
  | none => true
  | some ab => lab ab.1 == lab ab.2) && al (fun n => !t.nd.testBit n || (nE t lab (lab n) 7 == due lab (ab.map Prod.fst) n)) 7 0
theorem v_areParted (i : IN t) (hN : 100 ≤ N) {lab : Nat → Nat} {ab : Option (Nat × Nat)} (hab : ∀ x, ab = some x → x.1 < 7 ∧ x.2 < 7) {s : Wd} (r : RM s t) (hl : ∀ i, i < 7 → lab i < 7 ∧ s.1 6 i = nI (lab i)) :
    ∃ s', f_X8_areParted N s (aO (ab.map Prod.fst)) (aO (ab.map Prod.snd)) = some (bI (parted t lab ab), s') ∧ FrM s s' ∧ s'.1 6 = s.1 6 := by
  obtain ⟨s1, e1, g1, g2, g3⟩ := v_countsEdges i hN r hl
  have hl1 : ∀ i, i < 7 → lab i < 7 ∧ s1.1 6 i = nI (lab i) := fun x hx => by rw [g2 6 (by omega)]; exact hl x hx
  refine ⟨s1, ?_, ⟨g3, fun p _ hp => g2 p hp⟩, g2 6 (by omega)⟩
  have key := v_aP33 (N := N) (K := fun v12 => zb v12 (some (v12, s1))) i (lab := lab) (a := ab.map Prod.fst) (fun x hx => by
    cases ab with
    | none => exact absurd hx (by simp)
    | some y => simp at hx; rw [← hx]; exact (hab y rfl).1) (r.same (fun p hp => g2 p (by omega))) hl1 g1 7 0 N
  unfold f_X8_areParted
  rw [e1, bP_s]
  simp only [jn_e]
  cases ab with
  | none =>
    have := key true (by omega) (by omega)
    rw [if_pos (show aO (Option.map Prod.fst (none : Option (Nat × Nat))) = -1 from rfl)]
    refine Eq.trans this ?_
    rw [zb_bI]; rfl
  | some y =>
    obtain ⟨y1, y2⟩ := hab y rfl
    obtain ⟨a1, a2⟩ := hl1 y.1 y1
    obtain ⟨b1, b2⟩ := hl1 y.2 y2
    simp (disch := omega) only [Option.map, aO, nI_m1, if_false, rI_n, a2, b2, nI_eq]
    by_cases q : lab y.1 = lab y.2
    · rw [if_pos q]
      refine Eq.trans (key true (by omega) (by omega)) ?_
      rw [zb_bI]
      show _ = some (bI ((lab y.1 == lab y.2) && _), s1)
      rw [show (lab y.1 == lab y.2) = true from beq_iff_eq.mpr q]
    · rw [if_neg q]
      refine Eq.trans (key false (by omega) (by omega)) ?_
      rw [zb_bI]
      show _ = some (bI ((lab y.1 == lab y.2) && _), s1)
      rw [show (lab y.1 == lab y.2) = false from beq_false_of_ne q]
end mc
