/-! MOVES: what a plan says can be done, if there is room. -/
def QMv (t : Nt) (M : Mv) : Prop := M.nn ≤ 1 ∧ M.L.length ≤ 3 ∧ (t.nN + M.nn ≤ 7 → t.nW + M.L.length ≤ 20 → GM t M)
theorem pc_set {A k : Nat} (h : A.testBit k = false) (hk : k < 20) : pc (A ||| 2 ^ k) = pc A + 1 := by
  have h1 := ct_pull (fun j => (A ||| 2 ^ k).testBit j) k 20
  rw [if_pos ⟨hk, or_bit.mpr (Or.inr rfl)⟩] at h1
  unfold pc
  rw [h1]
  congr 1
  refine fb_ct_cong (fun j _ => ?_)
  rw [Nat.testBit_or, Nat.testBit_two_pow]
  by_cases e : j = k
  · subst e; simp [h]
  · have e' : ¬ k = j := fun z => e z.symm
    simp [e, e']
theorem pc_z : pc 0 = 0 := by decide +kernel
theorem pc_b {k : Nat} (hk : k < 20) : pc (2 ^ k) = 1 := by
  have := pc_set (A := 0) (k := k) (Nat.zero_testBit k) hk
  rw [Nat.zero_or, pc_z] at this
  exact this
theorem bit_ne {a b : Nat} (h : ¬ a = b) : (2 ^ a).testBit b = false := by
  rw [Nat.testBit_two_pow]; exact decide_eq_false h
theorem bit_eq {a b : Nat} : (2 ^ a).testBit b = true ↔ a = b := by
  rw [Nat.testBit_two_pow, decide_eq_true_eq]
theorem b00 {k : Nat} (h : (0 : Nat).testBit k = true) : False := by simp at h
section good
variable {t : Nt}
theorem gq_0 (i : IN t) {w : Nat} (hw : t.wr.testBit w = true) {M : Mv} (h : pl0 t w = some M) : QMv t M ∧ M.L.length < pc M.wg := by
  have h20 := bit20 i.wr20 hw
  unfold pl0 at h
  split at h
  · simp only [Option.some.injEq] at h
    subst h
    have hp : pc (Mv.mk 0 (2 ^ w) none 0 []).wg = 1 := pc_b h20
    refine ⟨⟨Nat.zero_le _, Nat.zero_le _, fun h1 h2 => ⟨fun k hk => absurd hk (fun z => b00 z), fun x hx _ => ⟨Nat.zero_testBit _, Nat.zero_testBit _⟩, fun x hx => ?_, fun x hx => absurd hx (by simp [Mv.ch, Mv.mk]), Nat.zero_le _, h1, h2, fun e he => absurd he (by simp [Mv.L, Mv.mk]), ?_, Nat.zero_le _, by show 0 < 2 ^ 7; decide⟩⟩, ?_⟩
    · rw [← bit_eq.mp hx]; exact hw
    · rw [hp]; exact Nat.le_refl _
    · rw [hp]; exact Nat.lt_succ_self _
  · exact absurd h (by simp)
theorem gq_1 (i : IN t) {w : Nat} (hw : t.wr.testBit w = true) {M : Mv} (h : pl1 t w = some M) : QMv t M ∧ M.L.length < pc M.wg := by
  unfold pl1 at h
  split at h
  · rename_i hc
    rw [Bool.and_eq_true, Bool.and_eq_true, decide_eq_true_eq, decide_eq_true_eq] at hc
    obtain ⟨-, ho, h60⟩ := hc
    obtain ⟨-, -, -, q4⟩ := fsP_spec (fun x => btw t (t.f w) (t.s w) x && !(x == w)) 20 0
    have hb := q4 ho
    rw [Bool.and_eq_true] at hb
    have hbw := hb.1
    unfold btw at hbw
    rw [Bool.and_eq_true] at hbw
    have c1 := i.cb _ hw
    have hwr : t.wr.testBit (othW t w) = true := hbw.2
    simp only [Option.some.injEq] at h
    subst h
    have hp : pc (Mv.mk 0 (2 ^ othW t w) (some (w, t.c w + t.c (othW t w))) 0 []).wg = 1 := pc_b ho
    refine ⟨⟨Nat.zero_le _, Nat.zero_le _, fun h1 h2 => ⟨fun k hk => absurd hk (fun z => b00 z), fun x hx _ => ⟨Nat.zero_testBit _, Nat.zero_testBit _⟩, fun x hx => ?_, fun x hx => ?_, Nat.zero_le _, h1, h2, fun e he => absurd he (by simp [Mv.L, Mv.mk]), ?_, Nat.zero_le _, by show 0 < 2 ^ 7; decide⟩⟩, ?_⟩
    · rw [← bit_eq.mp hx]; exact hwr
    · have hx' : some (w, t.c w + t.c (othW t w)) = some x := hx
      simp only [Option.some.injEq] at hx'
      subst hx'
      exact ⟨hw, by show 1 ≤ t.c w + t.c (othW t w); omega, h60⟩
    · rw [hp]; exact Nat.le_refl _
    · rw [hp]; exact Nat.lt_succ_self _
  · exact absurd h (by simp)
theorem WA_bit {v w : Nat} : (WA t v).testBit w = true ↔ w < 20 ∧ t.wr.testBit w = true ∧ (t.f w = v ∨ t.s w = v) := by
  unfold WA
  rw [stB_bit]
  unfold atB
  rw [Bool.and_eq_true, Bool.or_eq_true, beq_iff_eq, beq_iff_eq]
/-- the parts that hold of each move that takes a node away -/
theorem inn_parts (i : IN t) {v d : Nat} (hv : t.nd.testBit v = true) (h : inn t v d = true) :
    (∀ k, (2 ^ v).testBit k = true → t.ed.testBit k = false) ∧ (∀ w, t.wr.testBit w = true → (WA t v).testBit w = false → (2 ^ v).testBit (t.f w) = false ∧ (2 ^ v).testBit (t.s w) = false) ∧ (∀ w, (WA t v).testBit w = true → t.wr.testBit w = true) ∧ 2 ^ v < 2 ^ 7 ∧ pc (WA t v) = d ∧
    (∀ j, j < d → t.nd.testBit (fa t v j) = true ∧ (2 ^ v).testBit (fa t v j) = false) := by
  have hv7 := bit7 i.nd7 hv
  have hl := inn_len h
  have h0 := h
  unfold inn at h
  rw [Bool.and_eq_true, Bool.and_eq_true, Bool.not_eq_true'] at h
  obtain ⟨he, -, hm⟩ := h
  refine ⟨fun k hk => ?_, fun w hw hn => ?_, fun w hw => (WA_bit.mp hw).2.1, Nat.pow_lt_pow_right (by decide) hv7, (pc_WA t v).trans hl, fun j hj => ⟨?_, ?_⟩⟩
  · rw [← bit_eq.mp hk]; exact he
  · have hn' : ¬ (WA t v).testBit w = true := by rw [hn]; decide
    rw [WA_bit] at hn'
    have h20 := bit20 i.wr20 hw
    exact ⟨bit_ne (fun e => hn' ⟨h20, hw, Or.inl e.symm⟩), bit_ne (fun e => hn' ⟨h20, hw, Or.inr e.symm⟩)⟩
  · obtain ⟨h1, h2, h3⟩ := la_in (t := t) (v := v) (j := j) (by omega)
    obtain ⟨w1, w2⟩ := i.wf _ h2
    unfold fa Nt.far
    split
    · exact w2
    · exact w1
  · unfold mdB at hm
    have := al_iff.mp hm j (Nat.zero_le _) (by omega)
    rw [Bool.and_eq_true, Bool.not_eq_true', beq_eq_false_iff_ne] at this
    exact bit_ne (fun e => this.1 e.symm)
theorem whl_b {u l : Nat} (h : whl u l = true) : 1 ≤ u / l ∧ u / l ≤ 60 := (of_decide_eq_true h).2
theorem gq_2 (i : IN t) {v : Nat} (hv : t.nd.testBit v = true) {M : Mv} (h : pl2 t v = some M) : QMv t M ∧ M.L.length < pc M.wg := by
  unfold pl2 at h
  split at h
  · rename_i hc
    obtain ⟨p1, p2, p3, p4, p5, p6⟩ := inn_parts i hv hc
    simp only [Option.some.injEq] at h
    subst h
    have hp : pc (Mv.mk (2 ^ v) (WA t v) none 0 []).wg = 1 := p5
    refine ⟨⟨Nat.zero_le _, Nat.zero_le _, fun h1 h2 => ⟨p1, p2, p3, fun x hx => absurd hx (by simp [Mv.ch, Mv.mk]), Nat.zero_le _, h1, h2, fun e he => absurd he (by simp [Mv.L, Mv.mk]), ?_, Nat.zero_le _, p4⟩⟩, ?_⟩
    · rw [hp]; exact Nat.le_refl _
    · rw [hp]; exact Nat.lt_succ_self _
  · exact absurd h (by simp)
theorem gq_3 (i : IN t) {v : Nat} (hv : t.nd.testBit v = true) {M : Mv} (h : pl3 t v = some M) : QMv t M ∧ M.L.length < pc M.wg := by
  unfold pl3 at h
  split at h
  · rename_i hc
    rw [Bool.and_eq_true] at hc
    obtain ⟨hc, hw⟩ := hc
    obtain ⟨p1, p2, p3, p4, p5, p6⟩ := inn_parts i hv hc
    simp only [Option.some.injEq] at h
    subst h
    generalize hq : (fa t v 0, fa t v 1, lc t v 0 * lc t v 1 / (lc t v 0 + lc t v 1)) = q
    have hp : pc (Mv.mk (2 ^ v) (WA t v) none 0 [q]).wg = 2 := p5
    refine ⟨⟨Nat.zero_le _, by show 1 ≤ 3; omega, fun h1 h2 => ⟨p1, p2, p3, fun x hx => absurd hx (by simp [Mv.ch, Mv.mk]), Nat.zero_le _, h1, h2, fun e he => ?_, ?_, by show 1 ≤ 3; omega, p4⟩⟩, ?_⟩
    · have he' : e ∈ [q] := he
      rw [List.mem_singleton] at he'
      subst he'
      rw [← hq]
      exact ⟨p6 0 (by omega), Or.inl (p6 1 (by omega)), whl_b hw⟩
    · rw [hp]; show 3 + 2 * 1 ≤ 3 * 2; omega
    · rw [hp]; show 1 < 2; omega
  · exact absurd h (by simp)
theorem gq_4 (i : IN t) {v : Nat} (hv : t.nd.testBit v = true) {M : Mv} (h : pl4 t v = some M) : QMv t M := by
  unfold pl4 at h
  split at h
  · rename_i hc
    rw [Bool.and_eq_true, Bool.and_eq_true, Bool.and_eq_true] at hc
    obtain ⟨hc, w1, w2, w3⟩ := hc
    obtain ⟨p1, p2, p3, p4, p5, p6⟩ := inn_parts i hv hc
    simp only [Option.some.injEq] at h
    subst h
    refine ⟨Nat.zero_le _, by show 3 ≤ 3; omega, fun h1 h2 => ⟨p1, p2, p3, fun x hx => absurd hx (by simp [Mv.ch, Mv.mk]), Nat.zero_le _, h1, h2, fun e he => ?_, ?_, by show 3 ≤ 3; omega, p4⟩⟩
    · have he' : e ∈ [(fa t v 0, fa t v 1, lc t v 0 * lc t v 1 / sm3 t v), (fa t v 0, fa t v 2, lc t v 0 * lc t v 2 / sm3 t v), (fa t v 1, fa t v 2, lc t v 1 * lc t v 2 / sm3 t v)] := he
      rw [List.mem_cons, List.mem_cons, List.mem_singleton] at he'
      rcases he' with rfl | rfl | rfl
      · exact ⟨p6 0 (by omega), Or.inl (p6 1 (by omega)), whl_b w1⟩
      · exact ⟨p6 0 (by omega), Or.inl (p6 2 (by omega)), whl_b w2⟩
      · exact ⟨p6 1 (by omega), Or.inl (p6 2 (by omega)), whl_b w3⟩
    · show 3 + 2 * 3 ≤ 3 * pc (WA t v)
      rw [p5]; omega
  · exact absurd h (by simp)
/-- threeB unlike wires -/
theorem sec_ne {w : Nat} (h : sec t w < 20) : ¬ w = sec t w ∧ ¬ w = thd t w ∧ ¬ sec t w = thd t w := by
  obtain ⟨a1, a2, a3, a4, a5, a6, a7, a8⟩ := sec_in h
  have a8' := ends_iff.mp a8
  refine ⟨fun e => ?_, fun e => ?_, fun e => ?_⟩
  · rw [← e] at a4 a5
    unfold Nt.far at a5
    rw [if_pos rfl] at a5
    exact a5 rfl
  · rw [← e] at a8'
    rcases a8' with ⟨z1, z2⟩ | ⟨z1, z2⟩
    · exact a1 z1
    · exact a4 z1.symm
  · rw [← e] at a8'
    rcases a8' with ⟨z1, z2⟩ | ⟨z1, z2⟩
    · rcases a3 with q | q
      · exact a1 (q.symm.trans z1)
      · exact a4 (z2.symm.trans q)
    · rcases a3 with q | q
      · exact a4 (z1.symm.trans q)
      · exact a1 (q.symm.trans z2)
theorem gq_5 (i : IN t) {w : Nat} (hw : t.wr.testBit w = true) {M : Mv} (h : pl5 t w = some M) : QMv t M := by
  have h20 := bit20 i.wr20 hw
  unfold pl5 at h
  split at h
  · rename_i hc
    rw [Bool.and_eq_true, Bool.and_eq_true, Bool.and_eq_true, decide_eq_true_eq] at hc
    obtain ⟨hs, w1, w2, w3⟩ := hc
    obtain ⟨a1, a2, a3, a4, a5, a6, a7, a8⟩ := sec_in hs
    obtain ⟨n1, n2, n3⟩ := sec_ne hs
    simp only [Option.some.injEq] at h
    subst h
    obtain ⟨f1, f2⟩ := i.wf w hw
    obtain ⟨f3, f4⟩ := i.wf _ a2
    have hp : pc ((2 ^ w ||| 2 ^ sec t w) ||| 2 ^ thd t w) = 3 := by
      rw [pc_set (by rw [Nat.testBit_or, bit_ne n2, bit_ne n3]; rfl) a6, pc_set (bit_ne n1) hs, pc_b h20]
    refine ⟨by show 1 ≤ 1; omega, by show 3 ≤ 3; omega, fun h1 h2 => ⟨fun k hk => absurd hk (fun z => b00 z), fun x hx _ => ⟨Nat.zero_testBit _, Nat.zero_testBit _⟩, fun x hx => ?_, fun x hx => absurd hx (by simp [Mv.ch, Mv.mk]), by show 1 ≤ 1; omega, h1, h2, fun e he => ?_, ?_, by show 3 ≤ 3; omega, by show 0 < 2 ^ 7; decide⟩⟩
    · rcases or_bit.mp hx with q | rfl
      · rcases or_bit.mp q with q | rfl
        · rw [← bit_eq.mp q]; exact hw
        · exact a2
      · exact a7
    · have he' : e ∈ [(t.f w, t.nN, prs t w / t.c (thd t w)), (t.s w, t.nN, prs t w / t.c (sec t w)), (t.far (sec t w) (t.f w), t.nN, prs t w / t.c w)] := he
      rw [List.mem_cons, List.mem_cons, List.mem_singleton] at he'
      rcases he' with rfl | rfl | rfl
      · exact ⟨⟨f1, Nat.zero_testBit _⟩, Or.inr ⟨rfl, rfl⟩, whl_b w1⟩
      · exact ⟨⟨f2, Nat.zero_testBit _⟩, Or.inr ⟨rfl, rfl⟩, whl_b w2⟩
      · refine ⟨⟨?_, Nat.zero_testBit _⟩, Or.inr ⟨rfl, rfl⟩, whl_b w3⟩
        show t.nd.testBit (t.far (sec t w) (t.f w)) = true
        unfold Nt.far
        split
        · exact f4
        · exact f3
    · show 3 + 2 * 3 ≤ 3 * pc ((2 ^ w ||| 2 ^ sec t w) ||| 2 ^ thd t w)
      rw [hp]; omega
  · exact absurd h (by simp)
end good
