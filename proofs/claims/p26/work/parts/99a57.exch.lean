/-! MINORS OF A NETWORK: one column exchanged; the count of an answer by a row. -/
def Am (t : Nt) : Nat → Nat → Int := LA id (lsQ t 20)
theorem rts_pick : ∀ S : Fin 128, rts S.val = pick (fun k => S.val.testBit k) 7 := by decide +kernel
def lsm (g : Nat → Int) : List Nat → Int
  | [] => 0
  | c :: cs => g c + lsm g cs
theorem lsm_app {g : Nat → Int} : ∀ (l m : List Nat), lsm g (l ++ m) = lsm g l + lsm g m
  | [], m => by show _ = 0 + _; rw [Int.zero_add]; rfl
  | c :: l, m => by
    show g c + lsm g (l ++ m) = g c + lsm g l + lsm g m
    rw [lsm_app l m, Int.add_assoc]
theorem lsm_pick {g : Nat → Int} {p : Nat → Bool} : ∀ m, lsm g (pick p m) = smI (fun k => if p k = true then g k else 0) m
  | 0 => rfl
  | m + 1 => by
    have ih := lsm_pick (g := g) (p := p) m
    show _ = smI (fun k => if p k = true then g k else 0) m + (if p m = true then g m else 0)
    unfold pick
    cases h : p m
    · simp only [Bool.false_eq_true, if_false, Int.add_zero]; exact ih
    · simp only [if_true]
      rw [lsm_app, ih]
      show _ + (g m + 0) = _
      rw [Int.add_zero]
theorem lsm_congr {g h : Nat → Int} : ∀ (l : List Nat), (∀ c ∈ l, g c = h c) → lsm g l = lsm h l
  | [], _ => rfl
  | c :: l, e => by
    show g c + _ = h c + _
    rw [e c List.mem_cons_self, lsm_congr l (fun z hz => e z (List.mem_cons_of_mem _ hz))]
theorem sx_lsm {f H : Nat → Int} {G : List Nat → Int} {j : Nat} : ∀ (cs pre : List Nat), (∀ (P : List Nat) (c : Nat) (Q : List Nat), P ++ c :: Q = pre ++ cs → G (P ++ j :: Q) = H c) → sx f G j pre cs = lsm (fun c => f c * H c) cs
  | [], _, _ => rfl
  | c :: cs, pre, h => by
    show f c * G (pre ++ j :: cs) + sx f G j (pre ++ [c]) cs = f c * H c + _
    rw [h pre c cs rfl, sx_lsm cs (pre ++ [c]) (fun P d Q e => h P d Q (by rw [e]; simp))]
section exch
variable {t : Nt}
theorem nd_in (i : IN t) {S : Nat} (hS : ∀ k, S.testBit k = true → t.nd.testBit k = true) : S < 128 := lt_of_bits (n := 7) (fun k hk => bit7 i.nd7 (hS k hk))
/-- all nodes but those of S as roots: the minor of S -/
theorem minor0 (i : IN t) {S : Nat} (hS : ∀ k, S.testBit k = true → t.nd.testBit k = true) : dt ((rts S).map (Am t)) (rts S) = (cntC t (mn t.nd S) 0 0 : Int) := by
  refine mt_roots i (R := mn t.nd S) (L := rts S) (fun k hk => (mn_f hk).1) (rts_nodup S) (fun z => ?_)
  rw [mem_rts]
  constructor
  · rintro ⟨h1, h2⟩
    refine ⟨hS z h2, ?_⟩
    rw [mn_bit, h2]; simp
  · rintro ⟨h1, h2⟩
    rw [mn_bit, h1] at h2
    exact ⟨bit7 i.nd7 h1, by simpa using h2⟩
theorem minor1 (i : IN t) {S c j : Nat} {P Q : List Nat} (hS : ∀ k, S.testBit k = true → t.nd.testBit k = true) (hj : t.nd.testBit j = true) (hjS : S.testBit j = false) (hL : rts S = P ++ c :: Q) : dt ((rts S).map (Am t)) (P ++ j :: Q) = - (cntC t (mn t.nd S) c j : Int) := by
  have h7 := i.nd7
  have hn : (P ++ c :: Q).Nodup := hL ▸ rts_nodup S
  have hp : (P ++ c :: Q).Perm (c :: (P ++ Q)) := List.perm_middle
  have hn1 := hp.nodup_iff.mp hn
  have hmem : ∀ z, z ∈ c :: (P ++ Q) ↔ S.testBit z = true := fun z => by
    rw [← hp.mem_iff, ← hL, mem_rts]
    exact ⟨fun h => h.2, fun h => ⟨bit7 (nd_in i hS) h, h⟩⟩
  have hjL : j ∉ c :: (P ++ Q) := fun h => by rw [(hmem j).mp h] at hjS; exact absurd hjS (by decide)
  have hn2 := List.nodup_cons.mp hn1
  have hnn : (c :: j :: (P ++ Q)).Nodup := List.nodup_cons.mpr ⟨fun h => by
    rcases List.mem_cons.mp h with e | h
    · exact hjL (e ▸ List.mem_cons_self)
    · exact hn2.1 h, List.nodup_cons.mpr ⟨fun h => hjL (List.mem_cons_of_mem _ h), hn2.2⟩⟩
  have rj : (mn (mn t.nd S) (2 ^ j)).testBit j = false := by rw [mn_bit, Nat.testBit_two_pow]; simp
  have key := am_cross i (R := mn (mn t.nd S) (2 ^ j)) (x := c) (y := j) (L := P ++ Q) (fun k hk => (mn_f (mn_f hk).1).1) hnn (fun z => by
    have e : z ∈ c :: j :: (P ++ Q) ↔ (S.testBit z = true ∨ z = j) := by
      rw [← hmem]
      simp only [List.mem_cons]
      constructor
      · rintro (h | h | h)
        · exact Or.inl (Or.inl h)
        · exact Or.inr h
        · exact Or.inl (Or.inr h)
      · rintro ((h | h) | h)
        · exact Or.inl h
        · exact Or.inr (Or.inr h)
        · exact Or.inr (Or.inl h)
    rw [e, mn_bit, mn_bit, Nat.testBit_two_pow]
    constructor
    · rintro (h | h)
      · exact ⟨hS z h, by rw [h]; simp⟩
      · subst h; exact ⟨hj, by simp⟩
    · rintro ⟨h1, h2⟩
      by_cases e : z = j
      · exact Or.inr e
      · have e' : ¬ j = z := fun q => e q.symm
        rw [h1] at h2
        simp [e'] at h2
        exact Or.inl h2)
  have eR : mn (mn t.nd S) (2 ^ j) ||| 2 ^ j = mn t.nd S := by
    apply Nat.eq_of_testBit_eq
    intro k
    rw [fb_bit_set, mn_bit, mn_bit, Nat.testBit_two_pow]
    by_cases e : k = j
    · subst e; rw [hj, hjS]; simp
    · have e' : ¬ j = k := fun q => e q.symm
      simp [e, e']
  rw [eR] at key
  have hl : (rts S).length = P.length + Q.length + 1 := by rw [hL]; simp; omega
  have h1 := dt_rfront (x := Am t c) (R := Q.map (Am t)) (cs := P ++ j :: Q) (P.map (Am t)) []
  have h2 := dt_cfront (rs := (c :: (P ++ Q)).map (Am t)) (x := j) (Q := Q) P [] (by simp)
  rw [List.nil_append, List.nil_append] at h1 h2
  have e1 : Am t c :: (P.map (Am t) ++ Q.map (Am t)) = (c :: (P ++ Q)).map (Am t) := by simp
  have e2 : P.map (Am t) ++ Am t c :: Q.map (Am t) = (rts S).map (Am t) := by rw [hL]; simp
  rw [e1, e2, List.length_map] at h1
  have h3 : dt ((c :: (P ++ Q)).map (Am t)) (j :: (P ++ Q)) = dt ((rts S).map (Am t)) (P ++ j :: Q) := by
    rw [h2, h1, ← Int.mul_assoc, sg_sq, Int.one_mul]
  rw [← h3]
  exact key
/-- the answer's count by the wires of one edge -/
theorem pair_sum (i : IN t) {a b : Nat} (ha : t.ed.testBit a = true) (hb : t.ed.testBit b = true) (hab : a ≠ b) :
    (cntC t (mn t.ed (2 ^ a)) a b : Int) = - Am t a b * (cntC t t.ed 0 0 : Int) + smI (fun n => if (mn t.nd t.ed).testBit n = true then - Am t a n * (cntC t t.ed n b : Int) else 0) 7 := by
  have h7 := i.nd7
  have hS : ∀ k, (mn t.nd t.ed).testBit k = true → t.nd.testBit k = true := fun k hk => (mn_f hk).1
  have eE : mn t.nd (mn t.nd t.ed) = t.ed := by
    apply Nat.eq_of_testBit_eq
    intro k
    rw [mn_bit, mn_bit]
    cases h : t.ed.testBit k
    · cases t.nd.testBit k <;> rfl
    · rw [i.edn k h]; rfl
  have inS : ∀ z, t.ed.testBit z = true → (mn t.nd t.ed).testBit z = false := fun z hz => by rw [mn_bit, hz]; simp
  have hmem : ∀ z, z ∈ rts (mn t.nd t.ed) ↔ (mn t.nd t.ed).testBit z = true := fun z => by
    rw [mem_rts]
    exact ⟨fun h => h.2, fun h => ⟨bit7 (nd_in i hS) h, h⟩⟩
  have aL : a ∉ rts (mn t.nd t.ed) := fun h => by have := (hmem a).mp h; rw [inS a ha] at this; exact absurd this (by decide)
  have bL : b ∉ rts (mn t.nd t.ed) := fun h => by have := (hmem b).mp h; rw [inS b hb] at this; exact absurd this (by decide)
  have hnn : (a :: b :: rts (mn t.nd t.ed)).Nodup := List.nodup_cons.mpr ⟨fun h => by
    rcases List.mem_cons.mp h with e | h
    · exact hab e
    · exact aL h, List.nodup_cons.mpr ⟨bL, rts_nodup _⟩⟩
  have key := am_cross i (R := mn (mn t.ed (2 ^ a)) (2 ^ b)) (x := a) (y := b) (L := rts (mn t.nd t.ed)) (fun k hk => i.edn k (mn_f (mn_f hk).1).1) hnn (fun z => by
    rw [List.mem_cons, List.mem_cons, hmem, mn_bit, mn_bit, mn_bit, Nat.testBit_two_pow, Nat.testBit_two_pow]
    constructor
    · rintro (h | h | h)
      · subst h; exact ⟨i.edn z ha, by simp⟩
      · subst h; exact ⟨i.edn z hb, by simp⟩
      · rw [Bool.and_eq_true, Bool.not_eq_true'] at h
        exact ⟨h.1, by rw [h.2]; simp⟩
    · rintro ⟨h1, h2⟩
      by_cases e1 : z = a
      · exact Or.inl e1
      · by_cases e2 : z = b
        · exact Or.inr (Or.inl e2)
        · have e1' : ¬ a = z := fun q => e1 q.symm
          have e2' : ¬ b = z := fun q => e2 q.symm
          simp [e1', e2'] at h2
          exact Or.inr (Or.inr (by rw [h1, h2]; rfl)))
  have eR : mn (mn t.ed (2 ^ a)) (2 ^ b) ||| 2 ^ b = mn t.ed (2 ^ a) := by
    apply Nat.eq_of_testBit_eq
    intro k
    rw [fb_bit_set, mn_bit, mn_bit, Nat.testBit_two_pow, Nat.testBit_two_pow]
    by_cases e : k = b
    · subst e; rw [hb]; simp [hab]
    · have e' : ¬ b = k := fun q => e q.symm
      simp [e, e']
  rw [eR] at key
  have hx : dt ((a :: rts (mn t.nd t.ed)).map (Am t)) (b :: rts (mn t.nd t.ed)) = Am t a b * dt ((rts (mn t.nd t.ed)).map (Am t)) (rts (mn t.nd t.ed)) - sx (Am t a) (dt ((rts (mn t.nd t.ed)).map (Am t))) b [] (rts (mn t.nd t.ed)) := by
    show ex (Am t a) (dt ((rts (mn t.nd t.ed)).map (Am t))) [] (b :: rts (mn t.nd t.ed)) = _
    rw [ex_front, ex_sx _ [] (by simp)]
    show _ - 1 * _ = _
    rw [Int.one_mul]
  have hsx := sx_lsm (f := Am t a) (H := fun c => - (cntC t t.ed c b : Int)) (G := dt ((rts (mn t.nd t.ed)).map (Am t))) (j := b) (rts (mn t.nd t.ed)) [] (fun P c Q e => by
    rw [List.nil_append] at e
    have := minor1 i (S := mn t.nd t.ed) (c := c) (j := b) (P := P) (Q := Q) hS (i.edn b hb) (inS b hb) e.symm
    rw [eE] at this
    exact this)
  have h0 := minor0 i hS
  rw [eE] at h0
  have hp := rts_pick ⟨mn t.nd t.ed, nd_in i hS⟩
  simp only at hp
  have key2 : dt ((a :: rts (mn t.nd t.ed)).map (Am t)) (b :: rts (mn t.nd t.ed)) = - (cntC t (mn t.ed (2 ^ a)) a b : Int) := key
  rw [hx, h0, hsx] at key2
  have e3 : lsm (fun c => Am t a c * - (cntC t t.ed c b : Int)) (rts (mn t.nd t.ed)) = smI (fun n => if (mn t.nd t.ed).testBit n = true then - Am t a n * (cntC t t.ed n b : Int) else 0) 7 := by
    rw [hp, lsm_pick]
    congr 1
    funext k
    rw [Int.mul_neg, Int.neg_mul]
  rw [e3] at key2
  rw [Int.neg_mul]
  omega
end exch
