/-! MOVES: what they take away and bring. -/
/-- nodes that go, wires that go, a wire that changes, new nodes, wires that come -/
def Mv : Type := Nat × Nat × Option (Nat × Nat) × Nat × List (Nat × Nat × Nat)
def Mv.mk (ng wg : Nat) (ch : Option (Nat × Nat)) (nn : Nat) (L : List (Nat × Nat × Nat)) : Mv := (ng, wg, ch, nn, L)
def Mv.ng (M : Mv) : Nat := M.1
def Mv.wg (M : Mv) : Nat := M.2.1
def Mv.ch (M : Mv) : Option (Nat × Nat) := M.2.2.1
def Mv.nn (M : Mv) : Nat := M.2.2.2.1
def Mv.L (M : Mv) : List (Nat × Nat × Nat) := M.2.2.2.2
def Nt.cut (t : Nt) (ng wg : Nat) (c : Nat → Nat) : Nt := Nt.mk (mn t.nd ng) t.ed (mn t.wr wg) t.nN t.nW t.f t.s c
def cgd (c : Nat → Nat) : Option (Nat × Nat) → (Nat → Nat)
  | none => c
  | some x => upN c x.1 x.2
def addWs (t : Nt) : List (Nat × Nat × Nat) → Nt
  | [] => t
  | e :: L => addWs (t.addW e.1 e.2.1 e.2.2) L
def Nt.base (t : Nt) (M : Mv) : Nt := if M.nn = 0 then t.cut M.ng M.wg (cgd t.c M.ch) else (t.cut M.ng M.wg (cgd t.c M.ch)).addN false
def Nt.app (t : Nt) (M : Mv) : Nt := addWs (t.base M) M.L
/-- a move that can be done -/
def GM (t : Nt) (M : Mv) : Prop :=
  (∀ k, M.ng.testBit k = true → t.ed.testBit k = false) ∧
  (∀ w, t.wr.testBit w = true → M.wg.testBit w = false → M.ng.testBit (t.f w) = false ∧ M.ng.testBit (t.s w) = false) ∧
  (∀ w, M.wg.testBit w = true → t.wr.testBit w = true) ∧
  (∀ x, M.ch = some x → t.wr.testBit x.1 = true ∧ 1 ≤ x.2 ∧ x.2 ≤ 60) ∧
  M.nn ≤ 1 ∧ t.nN + M.nn ≤ 7 ∧ t.nW + M.L.length ≤ 20 ∧
  (∀ e ∈ M.L, (t.nd.testBit e.1 = true ∧ M.ng.testBit e.1 = false) ∧ ((t.nd.testBit e.2.1 = true ∧ M.ng.testBit e.2.1 = false) ∨ (e.2.1 = t.nN ∧ M.nn = 1)) ∧ 1 ≤ e.2.2 ∧ e.2.2 ≤ 60) ∧
  3 + 2 * M.L.length ≤ 3 * pc M.wg ∧ M.L.length ≤ 3 ∧ M.ng < 2 ^ 7
theorem ct_mn {A B : Nat → Bool} (h : ∀ k, B k = true → A k = true) : ∀ n, fb_ct (fun k => A k && !B k) n + fb_ct B n = fb_ct A n
  | 0 => rfl
  | n + 1 => by
    have ih := ct_mn h n
    have h1 := h n
    rw [fb_ct_succ, fb_ct_succ, fb_ct_succ]
    cases hA : A n <;> cases hB : B n
    · simp; omega
    · rw [hA, hB] at h1; exact absurd (h1 rfl) (by decide)
    · simp; omega
    · simp; omega
theorem pc_cut {A B : Nat} (h : ∀ k, B.testBit k = true → A.testBit k = true) : pc (mn A B) + pc B = pc A := by
  unfold pc
  rw [← ct_mn h 20]
  congr 1
  exact fb_ct_cong (fun k _ => mn_bit A B k)
theorem mn_lt {A B n : Nat} (h : A < 2 ^ n) : mn A B < 2 ^ n := Nat.lt_of_le_of_lt (mn_le A B) h
theorem mn_f {A B k : Nat} (h : (mn A B).testBit k = true) : A.testBit k = true ∧ B.testBit k = false := by
  rw [mn_bit, Bool.and_eq_true, Bool.not_eq_true'] at h; exact h
theorem mn_t {A B k : Nat} (h1 : A.testBit k = true) (h2 : B.testBit k = false) : (mn A B).testBit k = true := by
  rw [mn_bit, h1, h2]; rfl
theorem mn_mn (A B C : Nat) : mn (mn A B) C = mn A (B ||| C) := by
  apply Nat.eq_of_testBit_eq
  intro k
  rw [mn_bit, mn_bit, mn_bit, Nat.testBit_or]
  cases A.testBit k <;> cases B.testBit k <;> cases C.testBit k <;> rfl
theorem mn_0 (A : Nat) : mn A 0 = A := by
  apply Nat.eq_of_testBit_eq
  intro k
  rw [mn_bit, Nat.zero_testBit]; simp
theorem cut_IN {t : Nt} (i : IN t) {ng wg : Nat} {c : Nat → Nat} (h1 : ∀ k, ng.testBit k = true → t.ed.testBit k = false) (h2 : ∀ w, t.wr.testBit w = true → wg.testBit w = false → ng.testBit (t.f w) = false ∧ ng.testBit (t.s w) = false) (h3 : ∀ w, t.wr.testBit w = true → wg.testBit w = false → 1 ≤ c w ∧ c w ≤ 60) : IN (t.cut ng wg c) := by
  refine ⟨i.nN, i.nW, mn_lt i.nd, i.ed, fun k hk => ?_, mn_lt i.wr, i.fb, i.sb, fun w hw => ?_, fun w hw => ?_, ?_⟩
  · refine mn_t (i.edn k hk) ?_
    cases hb : ng.testBit k
    · rfl
    · have := h1 k hb
      have hk' : t.ed.testBit k = true := hk
      rw [hk'] at this; exact absurd this (by decide)
  · obtain ⟨a, b⟩ := mn_f hw
    obtain ⟨c1, c2⟩ := i.wf w a
    obtain ⟨d1, d2⟩ := h2 w a b
    exact ⟨mn_t c1 d1, mn_t c2 d2⟩
  · obtain ⟨a, b⟩ := mn_f hw
    exact h3 w a b
  · exact Nat.le_trans (pc_mono (fun k hk => (mn_f hk).1)) i.few
theorem addWs_IN : ∀ (L : List (Nat × Nat × Nat)) (u : Nt), IN u → u.nW + L.length ≤ 20 → pc u.wr + L.length ≤ 12 → (∀ e ∈ L, u.nd.testBit e.1 = true ∧ u.nd.testBit e.2.1 = true ∧ 1 ≤ e.2.2 ∧ e.2.2 ≤ 60) →
    IN (addWs u L) ∧ (addWs u L).nW = u.nW + L.length ∧ (addWs u L).ed = u.ed ∧ pc (addWs u L).wr = pc u.wr + L.length ∧ ∀ w, w < u.nW → (addWs u L).c w = u.c w
  | [], u, i, _, _, _ => ⟨i, rfl, rfl, rfl, fun _ _ => rfl⟩
  | e :: L, u, i, h1, h2, h3 => by
    rw [List.length_cons] at h1 h2
    obtain ⟨a, b, c⟩ := h3 e List.mem_cons_self
    have i' : IN (u.addW e.1 e.2.1 e.2.2) := i.addW (by omega) (by omega) a b c
    have hp : pc (u.addW e.1 e.2.1 e.2.2).wr = pc u.wr + 1 := pc_or i.wr (by omega)
    have hnW : (u.addW e.1 e.2.1 e.2.2).nW = u.nW + 1 := rfl
    obtain ⟨g1, g2, g3, g4, g5⟩ := addWs_IN L (u.addW e.1 e.2.1 e.2.2) i' (by rw [hnW]; omega) (by rw [hp]; omega) (fun x hx => h3 x (List.mem_cons_of_mem _ hx))
    refine ⟨g1, ?_, g3, ?_, fun w hw => ?_⟩
    · show (addWs (u.addW e.1 e.2.1 e.2.2) L).nW = u.nW + (L.length + 1)
      rw [g2, hnW]; omega
    · show pc (addWs (u.addW e.1 e.2.1 e.2.2) L).wr = pc u.wr + (L.length + 1)
      rw [g4, hp]; omega
    · show (addWs (u.addW e.1 e.2.1 e.2.2) L).c w = u.c w
      rw [g5 w (by rw [hnW]; omega)]
      exact upN_o (by omega)
/-- what a move that can be done leaves, ahead of the wires that come -/
theorem GM.base {t : Nt} {M : Mv} (i : IN t) (g : GM t M) : IN (t.base M) ∧ (t.base M).nW = t.nW ∧ (t.base M).ed = t.ed ∧ pc (t.base M).wr + pc M.wg = pc t.wr ∧ (t.base M).c = cgd t.c M.ch ∧ (∀ e ∈ M.L, (t.base M).nd.testBit e.1 = true ∧ (t.base M).nd.testBit e.2.1 = true ∧ 1 ≤ e.2.2 ∧ e.2.2 ≤ 60) ∧ IN (t.cut M.ng M.wg (cgd t.c M.ch)) := by
  obtain ⟨a1, a2, a3, a4, a5, a6, a7, a8, a9, a10, a11⟩ := g
  have ic : IN (t.cut M.ng M.wg (cgd t.c M.ch)) := cut_IN i a1 a2 (fun w hw _ => by
    cases hc : M.ch with
    | none => exact i.cb w hw
    | some x =>
      show 1 ≤ upN t.c x.1 x.2 w ∧ upN t.c x.1 x.2 w ≤ 60
      by_cases e : w = x.1
      · rw [e, upN_s]; exact (a4 x hc).2
      · rw [upN_o e]; exact i.cb w hw)
  have hp : pc (mn t.wr M.wg) + pc M.wg = pc t.wr := pc_cut a3
  by_cases h0 : M.nn = 0
  · have e : t.base M = t.cut M.ng M.wg (cgd t.c M.ch) := if_pos h0
    rw [e]
    refine ⟨ic, rfl, rfl, hp, rfl, fun x hx => ?_, ic⟩
    obtain ⟨⟨b1, b2⟩, b3, b4⟩ := a8 x hx
    refine ⟨mn_t b1 b2, ?_, b4⟩
    rcases b3 with ⟨c1, c2⟩ | ⟨_, c2⟩
    · exact mn_t c1 c2
    · omega
  · have e : t.base M = (t.cut M.ng M.wg (cgd t.c M.ch)).addN false := if_neg h0
    rw [e]
    refine ⟨ic.addN (show t.nN < 7 by omega) false, rfl, rfl, hp, rfl, fun x hx => ?_, ic⟩
    obtain ⟨⟨b1, b2⟩, b3, b4⟩ := a8 x hx
    refine ⟨or_bit.mpr (Or.inl (mn_t b1 b2)), ?_, b4⟩
    rcases b3 with ⟨c1, c2⟩ | ⟨c1, _⟩
    · exact or_bit.mpr (Or.inl (mn_t c1 c2))
    · exact or_bit.mpr (Or.inr c1)
theorem GM.app {t : Nt} {M : Mv} (i : IN t) (g : GM t M) : IN (t.app M) ∧ (t.app M).nW = t.nW + M.L.length ∧ (t.app M).ed = t.ed ∧ pc (t.app M).wr + pc M.wg = pc t.wr + M.L.length ∧ ∀ w, w < t.nW → (t.app M).c w = cgd t.c M.ch w := by
  obtain ⟨b1, b2, b3, b4, b5, b6, -⟩ := g.base i
  obtain ⟨a1, a2, a3, a4, a5, a6, a7, a8, a9, a10, a11⟩ := g
  have hf := i.few
  obtain ⟨c1, c2, c3, c4, c5⟩ := addWs_IN M.L (t.base M) b1 (by rw [b2]; omega) (by omega) b6
  refine ⟨c1, ?_, ?_, ?_, fun w hw => ?_⟩
  · show (addWs (t.base M) M.L).nW = _
    rw [c2, b2]
  · show (addWs (t.base M) M.L).ed = _
    rw [c3, b3]
  · show pc (addWs (t.base M) M.L).wr + _ = _
    rw [c4]; omega
  · show (addWs (t.base M) M.L).c w = _
    rw [c5 w (by omega), b5]
