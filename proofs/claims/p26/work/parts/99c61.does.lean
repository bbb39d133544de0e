/-! THE LAW'S MOVES: loops and parallel wires. -/
/-- a plan with room -/
def pm (t : Nt) (o : Option Mv) : Option Mv := o.bind fun M => if t.nN + M.nn ≤ 7 ∧ t.nW + M.L.length ≤ 20 then some M else none
theorem pm_none (t : Nt) : pm t none = none := rfl
theorem pm_some {t : Nt} {M : Mv} (h : t.nN + M.nn ≤ 7 ∧ t.nW + M.L.length ≤ 20) : pm t (some M) = some M := if_pos h
theorem pm_full {t : Nt} {M : Mv} (h : ¬ (t.nN + M.nn ≤ 7 ∧ t.nW + M.L.length ≤ 20)) : pm t (some M) = none := if_neg h
theorem pm_of {t : Nt} {o : Option Mv} {M : Mv} (h : pm t o = some M) : o = some M ∧ t.nN + M.nn ≤ 7 ∧ t.nW + M.L.length ≤ 20 := by
  cases o with
  | none => exact absurd h (by simp [pm])
  | some M' =>
    by_cases q : t.nN + M'.nn ≤ 7 ∧ t.nW + M'.L.length ≤ 20
    · rw [pm_some q] at h
      cases h
      exact ⟨rfl, q⟩
    · rw [pm_full q] at h
      exact absurd h (by simp)
/-- what the law's move does, by a plan -/
def DL (N : Nat) (ν : Wd) (t : Nt) (kk ww : Int32) (o : Option Mv) : Prop :=
  (o = none → f_L_does N ν kk ww = some (0, ν)) ∧ ∀ M, o = some M → ∃ ν', f_L_does N ν kk ww = some (1, ν') ∧ RQ ν' (t.app M) ∧ FrL ν ν'
theorem DL.no {N : Nat} {ν : Wd} {t : Nt} {kk ww : Int32} {o : Option Mv} (h : f_L_does N ν kk ww = some (0, ν)) (ho : o = none) : DL N ν t kk ww o := ⟨fun _ => h, fun M hM => by rw [ho] at hM; exact absurd hM (by simp)⟩
theorem DL.yes {N : Nat} {ν ν' : Wd} {t : Nt} {kk ww : Int32} {o : Option Mv} {M : Mv} (h : f_L_does N ν kk ww = some (1, ν')) (ho : o = some M) (h1 : RQ ν' (t.app M)) (h2 : FrL ν ν') : DL N ν t kk ww o := ⟨fun q => by rw [ho] at q; exact absurd q (by simp), fun M' hM => by
  rw [ho] at hM
  cases hM
  exact ⟨ν', h, h1, h2⟩⟩
section does01
variable {N : Nat} {ν : Wd} {t : Nt}
theorem ldoes_0 (r : RQ ν t) (i : IN t) {w : Nat} (hw : t.wr.testBit w = true) : DL N ν t 0 (nI w) (pm t (pl0 t w)) := by
  have hwn := bit_lt i.wr hw
  have hW := i.nW
  have hN := i.nN
  have h20 := i.wr20
  have hf := i.fb w
  have hs := i.sb w
  have e : f_L_does N ν 0 (nI w) = if t.f w = t.s w then some (1, sI ν 0 4 (nI (mn t.wr (2 ^ w)))) else some (0, ν) := by
    unfold f_L_does
    rw [if_pos rfl, rp_1 r i hwn, rp_2 r i hwn]
    have q : (nI (t.f w) = nI (t.s w)) ↔ t.f w = t.s w := nI_eq (by omega) (by omega)
    simp only [q, rg_4 r]
    rw [c_shl (by omega), mn_c, lq4, aI_n (by omega) (by omega)]
  by_cases h : t.f w = t.s w
  · rw [if_pos h] at e
    refine DL.yes e (M := Mv.mk 0 (2 ^ w) none 0 []) ?_ ?_ (FrL.put (Or.inr ⟨rfl, by omega⟩))
    · have : pl0 t w = some (Mv.mk 0 (2 ^ w) none 0 []) := if_pos (beq_iff_eq.mpr h)
      rw [this]
      exact pm_some ⟨by show t.nN + 0 ≤ 7; omega, by show t.nW + 0 ≤ 20; omega⟩
    · refine ⟨?_, ?_, ?_, ?_, ?_, fun w' hw' => ?_, fun w' hw' => ?_, fun w' hw' => ?_⟩
      · rw [sI_slot (by omega)]; exact r.nN
      · rw [sI_slot (by omega), r.nd]
        show _ = nI (mn t.nd 0)
        rw [mn_0]
      · rw [sI_slot (by omega)]; exact r.ed
      · rw [sI_slot (by omega)]; exact r.nW
      · rw [sI_same]; rfl
      · rw [sI_place (by omega)]; exact r.f w' hw'
      · rw [sI_place (by omega)]; exact r.s w' hw'
      · rw [sI_place (by omega)]; exact r.c w' hw'
  · rw [if_neg h] at e
    refine DL.no e ?_
    have : pl0 t w = none := if_neg (fun z => h (beq_iff_eq.mp z))
    rw [this]; rfl
theorem wa_and {a b k : Nat} (hab : ¬ a = b) (hk : k < 20) : (WA t a &&& WA t b).testBit k = btw t a b k := by
  apply Bool.eq_iff_iff.mpr
  rw [Nat.testBit_and, Bool.and_eq_true, WA_bit, WA_bit]
  unfold btw
  rw [Bool.and_eq_true, ends_iff]
  constructor
  · rintro ⟨⟨_, h1, h2⟩, _, _, h3⟩
    refine ⟨?_, h1⟩
    rcases h2 with h2 | h2 <;> rcases h3 with h3 | h3
    · exact absurd (h2.symm.trans h3) hab
    · exact Or.inl ⟨h2, h3⟩
    · exact Or.inr ⟨h3, h2⟩
    · exact absurd (h2.symm.trans h3) hab
  · rintro ⟨h1 | h1, h2⟩
    · exact ⟨⟨hk, h2, Or.inl h1.1⟩, hk, h2, Or.inr h1.2⟩
    · exact ⟨⟨hk, h2, Or.inr h1.2⟩, hk, h2, Or.inl h1.1⟩
theorem WA_lt (t : Nt) (v : Nat) : WA t v < 2 ^ 20 := stB_lt _ 20
/-- a set is empty just where it has no least one -/
theorem set0 {p : Nat → Bool} {S : Nat} (hS : S < 2 ^ 20) (hp : ∀ k, k < 20 → S.testBit k = p k) : S = 0 ↔ ¬ fsP p 20 0 < 20 := by
  obtain ⟨h1, h2, h3, h4⟩ := fsP_spec p 20 0
  constructor
  · intro h q
    have := h4 (by omega)
    rw [← hp _ q, h, Nat.zero_testBit] at this
    exact absurd this (by decide)
  · intro h
    apply Nat.eq_of_testBit_eq
    intro k
    rw [Nat.zero_testBit]
    rcases Nat.lt_or_ge k 20 with z | z
    · rw [hp k z]; exact h3 k (Nat.zero_le _) (by omega)
    · exact Nat.testBit_lt_two_pow (Nat.lt_of_lt_of_le hS (Nat.pow_le_pow_right (by decide) z))
theorem ldoes_1 (r : RQ ν t) (i : IN t) (hN : 100 ≤ N) {w : Nat} (hw : t.wr.testBit w = true) : DL N ν t 1 (nI w) (pm t (pl1 t w)) := by
  have hwn := bit_lt i.wr hw
  have hW := i.nW
  have hnN := i.nN
  have h20 := i.wr20
  have hf := i.fb w
  have hs := i.sb w
  have hcw := i.cb w hw
  have hm : mn (WA t (t.f w) &&& WA t (t.s w)) (2 ^ w) < 2 ^ 20 := mn_lt (Nat.lt_of_le_of_lt Nat.and_le_left (WA_lt t _))
  have e1 : f_L_does N ν 1 (nI w) = if t.f w = t.s w then some ((0 : Int32), ν) else (if mn (WA t (t.f w) &&& WA t (t.s w)) (2 ^ w) = 0 then some (0, ν) else (bP (f_L_lowest N (nI (mn (WA t (t.f w) &&& WA t (t.s w)) (2 ^ w)))) fun v61 => rI ν 3 20 v61 fun v62 => if nI (t.c w) + v62 ≤ 60 then (bP (f_L_lowest N (nI (mn (WA t (t.f w) &&& WA t (t.s w)) (2 ^ w)))) fun v64 => rI ν 3 20 v64 fun v65 => aI ν 3 20 (nI w) (nI (t.c w) + v65) fun s66 => rI s66 0 6 4 fun v67 => bP (f_L_lowest N (nI (mn (WA t (t.f w) &&& WA t (t.s w)) (2 ^ w)))) fun v68 => aI s66 0 6 4 (v67 &&& ((1 <<< (v68 &&& 31)) ^^^ (-1))) fun s69 => some (1, s69)) else some (0, ν))) := by
    unfold f_L_does
    rw [if_neg (by decide), if_pos rfl]
    have q : (nI (t.f w) = nI (t.s w)) ↔ t.f w = t.s w := nI_eq (by omega) (by omega)
    have q0 : (nI (mn (WA t (t.f w) &&& WA t (t.s w)) (2 ^ w)) = 0) ↔ mn (WA t (t.f w) &&& WA t (t.s w)) (2 ^ w) = 0 := by
      rw [lq0]; exact nI_eq (by omega) (by omega)
    simp only [rp_1 r i hwn, rp_2 r i hwn, rp_3 r i hwn]
    rw [v_wiresOf r i hN hf, bP_s, v_wiresOf r i hN hs, bP_s, c_shl (by omega), fa_and, mn_c]
    simp only [lI, q, q0]
  by_cases h : t.f w = t.s w
  · rw [if_pos h] at e1
    refine DL.no e1 ?_
    have : pl1 t w = none := if_neg (by rw [beq_iff_eq.mpr h]; simp)
    rw [this]; rfl
  · rw [if_neg h] at e1
    have hp : ∀ k, k < 20 → (mn (WA t (t.f w) &&& WA t (t.s w)) (2 ^ w)).testBit k = (btw t (t.f w) (t.s w) k && !(k == w)) := fun k hk => by
      rw [mn_bit, wa_and h hk, Nat.testBit_two_pow]
      congr 2
      apply Bool.eq_iff_iff.mpr
      rw [decide_eq_true_iff, beq_iff_eq]
      exact ⟨fun z => z.symm, fun z => z.symm⟩
    by_cases h0 : othW t w < 20
    · have hl := v_lowestP hN hm hp h0
      have hoW : t.wr.testBit (othW t w) = true := by
        obtain ⟨-, -, -, g4⟩ := fsP_spec (fun x => btw t (t.f w) (t.s w) x && !(x == w)) 20 0
        have h0' : fsP (fun x => btw t (t.f w) (t.s w) x && !(x == w)) 20 0 < 20 := h0
        have := g4 (by omega)
        rw [Bool.and_eq_true] at this
        have h2 := this.1
        unfold btw at h2
        rw [Bool.and_eq_true] at h2
        exact h2.2
      have hon := bit_lt i.wr hoW
      have hco := i.cb _ hoW
      have hl' : f_L_lowest N (nI (mn (WA t (t.f w) &&& WA t (t.s w)) (2 ^ w))) = some (nI (othW t w)) := hl
      rw [if_neg (fun z => (set0 hm hp).mp z h0), hl', bP_s, rp_3 r i hon, nI_add] at e1
      by_cases h60 : t.c w + t.c (othW t w) ≤ 60
      · rw [if_pos (show nI (t.c w + t.c (othW t w)) ≤ 60 from nI_le (b := 60) h60 (by omega)), bP_s, rp_3 r i hon, nI_add, aI_n (by omega) (by omega), lq4, rI_n (by omega) (by omega), sI_place (by omega), r.wr, bP_s, c_shl (by omega), mn_c, aI_n (by omega) (by omega)] at e1
        refine DL.yes e1 (M := Mv.mk 0 (2 ^ othW t w) (some (w, t.c w + t.c (othW t w))) 0 []) ?_ ?_ ((FrL.put (Or.inl (by omega))).trans (FrL.put (Or.inr ⟨rfl, by omega⟩)))
        · have : pl1 t w = some (Mv.mk 0 (2 ^ othW t w) (some (w, t.c w + t.c (othW t w))) 0 []) := if_pos (by
            rw [decide_eq_true h0, decide_eq_true h60, beq_false_of_ne h]; rfl)
          rw [this]
          exact pm_some ⟨by show t.nN + 0 ≤ 7; omega, by show t.nW + 0 ≤ 20; omega⟩
        · refine ⟨?_, ?_, ?_, ?_, ?_, fun w' hw' => ?_, fun w' hw' => ?_, fun w' hw' => ?_⟩
          · simp (disch := omega) only [sI_slot, sI_place]; exact r.nN
          · simp (disch := omega) only [sI_slot, sI_place]; rw [r.nd]
            show _ = nI (mn t.nd 0)
            rw [mn_0]
          · simp (disch := omega) only [sI_slot, sI_place]; exact r.ed
          · simp (disch := omega) only [sI_slot, sI_place]; exact r.nW
          · rw [sI_same]; rfl
          · simp (disch := omega) only [sI_slot, sI_place]; exact r.f w' hw'
          · simp (disch := omega) only [sI_slot, sI_place]; exact r.s w' hw'
          · show _ = nI (upN t.c w (t.c w + t.c (othW t w)) w')
            by_cases q : w' = w
            · subst q
              simp (disch := omega) only [sI_same, sI_place, upN_s]
            · simp (disch := omega) only [sI_slot, sI_place, upN_o]; exact r.c w' hw'
      · rw [if_neg (show ¬ nI (t.c w + t.c (othW t w)) ≤ 60 from nI_ge (a := 60) (by omega) (by omega))] at e1
        refine DL.no e1 ?_
        have : pl1 t w = none := if_neg (by rw [decide_eq_false h60]; simp)
        rw [this]; rfl
    · rw [if_pos ((set0 hm hp).mpr h0)] at e1
      refine DL.no e1 ?_
      have : pl1 t w = none := if_neg (by rw [decide_eq_false h0]; simp)
      rw [this]; rfl
end does01
