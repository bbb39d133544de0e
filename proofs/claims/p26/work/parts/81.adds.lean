/-! NODES AND WIRES ADDED. -/
def upN (f : Nat → Nat) (k v : Nat) : Nat → Nat := fun j => if j = k then v else f j
theorem upN_s (f : Nat → Nat) (k v : Nat) : upN f k v k = v := if_pos rfl
theorem upN_o {f : Nat → Nat} {k v j : Nat} (h : j ≠ k) : upN f k v j = f j := if_neg h
def Nt.addN (t : Nt) (b : Bool) : Nt := Nt.mk (t.nd ||| 2 ^ t.nN) (if b then t.ed ||| 2 ^ t.nN else t.ed) t.wr (t.nN + 1) t.nW t.f t.s t.c
def Nt.addW (t : Nt) (x y c : Nat) : Nt := Nt.mk t.nd t.ed (t.wr ||| 2 ^ t.nW) t.nN (t.nW + 1) (upN t.f t.nW x) (upN t.s t.nW y) (upN t.c t.nW c)
theorem or_bit {A k i : Nat} : (A ||| 2 ^ k).testBit i = true ↔ (A.testBit i = true ∨ i = k) := by
  rw [Nat.testBit_or, Bool.or_eq_true, Nat.testBit_two_pow, decide_eq_true_eq]
  exact ⟨fun h => h.elim Or.inl (fun e => Or.inr e.symm), fun h => h.elim Or.inl (fun e => Or.inr e.symm)⟩
theorem or_lt' {A k : Nat} (h : A < 2 ^ k) : A ||| 2 ^ k < 2 ^ (k + 1) := or_lt (Nat.lt_of_lt_of_le h (Nat.pow_le_pow_right (by decide) (by omega))) (Nat.pow_lt_pow_right (by decide) (by omega))
theorem lt_up {A k : Nat} (h : A < 2 ^ k) : A < 2 ^ (k + 1) := Nat.lt_of_lt_of_le h (Nat.pow_le_pow_right (by decide) (by omega))
theorem pc_or {A k : Nat} (h : A < 2 ^ k) (hk : k < 20) : pc (A ||| 2 ^ k) = pc A + 1 := by
  have h1 := ct_pull (fun j => (A ||| 2 ^ k).testBit j) k 20
  rw [if_pos ⟨hk, or_bit.mpr (Or.inr rfl)⟩] at h1
  unfold pc
  rw [h1]
  congr 1
  refine fb_ct_cong (fun j _ => ?_)
  have hA : A.testBit k = false := Nat.testBit_lt_two_pow h
  rw [Nat.testBit_or, Nat.testBit_two_pow]
  by_cases e : j = k
  · subst e; simp [hA]
  · have e' : ¬ k = j := fun z => e z.symm
    simp [e, e']
theorem IN.addN {t : Nt} (i : IN t) (h : t.nN < 7) (b : Bool) : IN (t.addN b) := by
  refine ⟨by show t.nN + 1 ≤ 7; omega, i.nW, or_lt' i.nd, ?_, fun k hk => ?_, i.wr, i.fb, i.sb, fun w hw => ⟨or_bit.mpr (Or.inl (i.wf w hw).1), or_bit.mpr (Or.inl (i.wf w hw).2)⟩, i.cb, i.few⟩
  · show (if b then t.ed ||| 2 ^ t.nN else t.ed) < 2 ^ (t.nN + 1)
    cases b
    · exact lt_up i.ed
    · exact or_lt' i.ed
  · refine or_bit.mpr ?_
    cases b
    · exact Or.inl (i.edn k hk)
    · rcases or_bit.mp hk with q | q
      · exact Or.inl (i.edn k q)
      · exact Or.inr q
theorem IN.addW {t : Nt} (i : IN t) (h : t.nW < 20) (hp : pc t.wr < 12) {x y c : Nat} (hx : t.nd.testBit x = true) (hy : t.nd.testBit y = true) (hc : 1 ≤ c ∧ c ≤ 60) : IN (t.addW x y c) := by
  have x7 := bit7 i.nd7 hx
  have y7 := bit7 i.nd7 hy
  refine ⟨i.nN, by show t.nW + 1 ≤ 20; omega, i.nd, i.ed, i.edn, or_lt' i.wr, fun w => ?_, fun w => ?_, fun w hw => ?_, fun w hw => ?_, ?_⟩
  · show upN t.f t.nW x w < 7
    by_cases e : w = t.nW
    · rw [e, upN_s]; exact x7
    · rw [upN_o e]; exact i.fb w
  · show upN t.s t.nW y w < 7
    by_cases e : w = t.nW
    · rw [e, upN_s]; exact y7
    · rw [upN_o e]; exact i.sb w
  · show t.nd.testBit (upN t.f t.nW x w) = true ∧ t.nd.testBit (upN t.s t.nW y w) = true
    by_cases e : w = t.nW
    · rw [e, upN_s, upN_s]; exact ⟨hx, hy⟩
    · rw [upN_o e, upN_o e]
      exact i.wf w ((or_bit.mp hw).elim id (fun z => absurd z e))
  · show 1 ≤ upN t.c t.nW c w ∧ upN t.c t.nW c w ≤ 60
    by_cases e : w = t.nW
    · rw [e, upN_s]; exact hc
    · rw [upN_o e]; exact i.cb w ((or_bit.mp hw).elim id (fun z => absurd z e))
  · show pc (t.wr ||| 2 ^ t.nW) ≤ 12
    rw [pc_or i.wr h]; omega
section adds
variable {N : Nat} {σ τ : Wd} {t : Nt}
theorem v_hasRoom (r : RN σ t) (i : IN t) {a b : Nat} (ha : a ≤ 3) (hb : b ≤ 3) : f_X4_hasRoom N σ (nI a) (nI b) = some (bI (decide (t.nN + a ≤ 7 ∧ t.nW + b ≤ 20))) := by
  have h1 := i.nN
  have h2 := i.nW
  unfold f_X4_hasRoom
  simp only [gI, r.nN, r.nW, nI_add, lq7, lq20]
  by_cases q1 : t.nN + a ≤ 7
  · rw [if_neg (nI_nlt q1 (by omega))]
    by_cases q2 : t.nW + b ≤ 20
    · rw [if_neg (nI_nlt q2 (by omega)), decide_eq_true ⟨q1, q2⟩]; rfl
    · rw [if_pos (nI_lt (by omega) (by omega)), decide_eq_false (fun z => q2 z.2)]; rfl
  · rw [if_pos (nI_lt (by omega) (by omega)), decide_eq_false (fun z => q1 z.1)]; rfl
theorem v_addNode (r : RN σ t) (i : IN t) (h : t.nN < 7) (b : Bool) : ∃ σ', f_X4_addNode N σ (bI b) = some (nI t.nN, σ') ∧ RN σ' (t.addN b) ∧ (∀ p, p ≠ 1 → σ'.1 p = σ.1 p) ∧ σ'.2 = σ.2 := by
  have h7 := i.ed7
  have key : ∀ s : Wd, s.1 1 0 = nI (t.nd ||| 2 ^ t.nN) → s.1 1 1 = nI (if b then t.ed ||| 2 ^ t.nN else t.ed) → s.1 1 2 = σ.1 1 2 → s.1 1 3 = nI (t.nN + 1) → s.1 1 4 = σ.1 1 4 → (∀ p, p ≠ 1 → s.1 p = σ.1 p) → RN s (t.addN b) := fun s k0 k1 k2 k3 k4 kp =>
    ⟨k0, k1, k2.trans r.wr, k3, k4.trans r.nW, fun w hw => by rw [kp 2 (by omega)]; exact r.f w hw, fun w hw => by rw [kp 3 (by omega)]; exact r.s w hw, fun w hw => by rw [kp 4 (by omega)]; exact r.c w hw⟩
  unfold f_X4_addNode
  simp (disch := omega) only [gI, wI, r.nN, nI_1, v_setOf, bP_s, sI_slot, r.nd, r.ed, fa_or, if_bI0]
  cases b
  · refine ⟨_, rfl, key _ ?_ ?_ ?_ ?_ ?_ (fun p hp => ?_), fun p hp => ?_, rfl⟩
    · exact sI_same _ _ _ _
    · rw [sI_slot (by omega), sI_slot (by omega)]; exact r.ed
    · rw [sI_slot (by omega), sI_slot (by omega)]
    · rw [sI_slot (by omega)]; exact sI_same _ _ _ _
    · rw [sI_slot (by omega), sI_slot (by omega)]
    · rw [sI_place hp, sI_place hp]
    · rw [sI_place hp, sI_place hp]
  · refine ⟨_, rfl, key _ ?_ ?_ ?_ ?_ ?_ (fun p hp => ?_), fun p hp => ?_, rfl⟩
    · rw [sI_slot (by omega)]; exact sI_same _ _ _ _
    · exact sI_same _ _ _ _
    · rw [sI_slot (by omega), sI_slot (by omega), sI_slot (by omega)]
    · rw [sI_slot (by omega), sI_slot (by omega)]; exact sI_same _ _ _ _
    · rw [sI_slot (by omega), sI_slot (by omega), sI_slot (by omega)]
    · rw [sI_place hp, sI_place hp, sI_place hp]
    · rw [sI_place hp, sI_place hp, sI_place hp]
theorem mn_id {A k : Nat} (h : A < 2 ^ k) : mn A (2 ^ k) = A := by
  apply Nat.eq_of_testBit_eq
  intro j
  rw [mn_bit, Nat.testBit_two_pow]
  by_cases e : k = j
  · subst e; rw [Nat.testBit_lt_two_pow h]; rfl
  · simp [e]
end adds
