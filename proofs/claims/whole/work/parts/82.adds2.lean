/-! NODE AND WIRE. -/
section adds2
variable {N : Nat} {σ τ : Wd} {t : Nt}
theorem v_addWire (r : RN σ t) (i : IN t) (h : t.nW < 20) (x y c : Nat) : ∃ σ', f_X4_addWire N σ (nI x) (nI y) (nI c) = some (nI t.nW, σ') ∧ RN σ' (t.addW x y c) ∧ (∀ p, p = 0 ∨ 4 < p → σ'.1 p = σ.1 p) ∧ σ'.2 = σ.2 := by
  have h7 := i.wr20
  unfold f_X4_addWire
  simp (disch := omega) only [gI, wI, r.nW, lt0, if_false, lq20, nI_ltI, if_pos, nI_1, v_setOf, bP_s, sI_slot, r.wr, fa_or, aI_n]
  refine ⟨_, rfl, ⟨?_, ?_, ?_, ?_, ?_, fun w hw => ?_, fun w hw => ?_, fun w hw => ?_⟩, fun p hp => ?_, rfl⟩
  · rw [sI_place (by omega), sI_place (by omega), sI_place (by omega), sI_slot (by omega), sI_slot (by omega)]; exact r.nd
  · rw [sI_place (by omega), sI_place (by omega), sI_place (by omega), sI_slot (by omega), sI_slot (by omega)]; exact r.ed
  · rw [sI_place (by omega), sI_place (by omega), sI_place (by omega)]; exact sI_same _ _ _ _
  · rw [sI_place (by omega), sI_place (by omega), sI_place (by omega), sI_slot (by omega), sI_slot (by omega)]; exact r.nN
  · rw [sI_place (by omega), sI_place (by omega), sI_place (by omega), sI_slot (by omega)]; exact sI_same _ _ _ _
  · show _ = nI (upN t.f t.nW x w)
    by_cases e : w = t.nW
    · subst e; rw [sI_place (by omega), sI_place (by omega), sI_same, upN_s]
    · rw [sI_place (by omega), sI_place (by omega), sI_slot e, upN_o e, sI_place (by omega), sI_place (by omega)]; exact r.f w hw
  · show _ = nI (upN t.s t.nW y w)
    by_cases e : w = t.nW
    · subst e; rw [sI_place (by omega), sI_same, upN_s]
    · rw [sI_place (by omega), sI_slot e, upN_o e, sI_place (by omega), sI_place (by omega), sI_place (by omega)]; exact r.s w hw
  · show _ = nI (upN t.c t.nW c w)
    have hw' : w < t.nW + 1 := hw
    by_cases e : w = t.nW
    · subst e; rw [sI_same, upN_s]
    · rw [sI_slot e, upN_o e, sI_place (by omega), sI_place (by omega), sI_place (by omega), sI_place (by omega)]; exact r.c w (by omega)
  · rw [sI_place (by omega), sI_place (by omega), sI_place (by omega), sI_place (by omega), sI_place (by omega)]
theorem m_addsWire (r : RM τ t) (i : IN t) (h : t.nW < 20) (x y c : Nat) : ∃ τ', f_X8_addsWire N τ (nI x) (nI y) (nI c) = some (nI t.nW, τ') ∧ RM τ' (t.addW x y c) ∧ (∀ p, 3 < p → τ'.1 p = τ.1 p) ∧ (∀ k, k = 0 ∨ 5 < k → τ'.1 0 k = τ.1 0 k) ∧ τ'.2 = τ.2 := by
  have h7 := i.wr20
  unfold f_X8_addsWire
  simp (disch := omega) only [gI, wI, r.nW, r.wr, c_shl, fa_or, aI_n, sI_place, sI_slot, nI_1]
  refine ⟨_, rfl, ⟨?_, ?_, ?_, ?_, ?_, fun w hw => ?_, fun w hw => ?_, fun w hw => ?_⟩, fun p hp => ?_, fun k hk => ?_, rfl⟩
  · rw [sI_slot (by omega), sI_place (by omega), sI_place (by omega), sI_place (by omega), sI_slot (by omega)]; exact r.nd
  · rw [sI_slot (by omega), sI_place (by omega), sI_place (by omega), sI_place (by omega), sI_slot (by omega)]; exact r.ed
  · rw [sI_slot (by omega), sI_place (by omega), sI_place (by omega), sI_place (by omega)]; exact sI_same _ _ _ _
  · rw [sI_slot (by omega), sI_place (by omega), sI_place (by omega), sI_place (by omega), sI_slot (by omega)]; exact r.nN
  · exact sI_same _ _ _ _
  · show _ = nI (upN t.f t.nW x w)
    by_cases e : w = t.nW
    · subst e; rw [sI_place (by omega), sI_place (by omega), sI_place (by omega), sI_same, upN_s]
    · rw [sI_place (by omega), sI_place (by omega), sI_place (by omega), sI_slot e, upN_o e, sI_place (by omega)]; exact r.f w hw
  · show _ = nI (upN t.s t.nW y w)
    by_cases e : w = t.nW
    · subst e; rw [sI_place (by omega), sI_place (by omega), sI_same, upN_s]
    · rw [sI_place (by omega), sI_place (by omega), sI_slot e, upN_o e, sI_place (by omega), sI_place (by omega)]; exact r.s w hw
  · show _ = nI (upN t.c t.nW c w)
    by_cases e : w = t.nW
    · subst e; rw [sI_place (by omega), sI_same, upN_s]
    · rw [sI_place (by omega), sI_slot e, upN_o e, sI_place (by omega), sI_place (by omega), sI_place (by omega)]; exact r.c w hw
  · rw [sI_place (by omega), sI_place (by omega), sI_place (by omega), sI_place (by omega), sI_place (by omega)]
  · rw [sI_slot (by omega), sI_place (by omega), sI_place (by omega), sI_place (by omega), sI_slot (by omega)]
/-- the code of node's exception -/
def m31 (q : Nat) : Nat := if q = 3 then 1 else q
theorem sim_node (h : RT σ τ t) (b : Bool) : SimX m31 (f_X7_node N σ (bI b)) (f_X8_node N τ (bI b)) := by
  obtain ⟨h1, h2, i, h4, ⟨mE, a1, a2, a3, a4, a5⟩, -⟩ := id h
  have hn := i.nN
  have hw := i.nW
  unfold f_X7_node f_X8_node
  have hr := v_hasRoom (N := N) h1 i (a := 1) (b := 0) (by omega) (by omega)
  rw [show nI 1 = (1 : Int32) from rfl, show nI 0 = (0 : Int32) from rfl] at hr
  rw [hr, bP_s, if_bI0]
  simp only [gI, jn_e, wI, thr_0, h2.nN]
  by_cases q : t.nN = 7
  · rw [decide_eq_false (by omega), q, if_pos (show nI 7 = 7 from rfl), if_neg (show ¬ (1 : Int32) ≤ 0 by decide)]
    exact ⟨σ, sI τ 0 0 1, ⟨t, h.eq (EqC.rfl' σ) (EqM.thr τ 1)⟩, Or.inl ⟨3, 0, Or.inr (Or.inr rfl), rfl, rfl, thr_0 _ _⟩⟩
  · rw [decide_eq_true (by omega), if_pos rfl, if_neg (show ¬ nI t.nN = 7 from fun z => q ((nI_eq (b := 7) (by omega) (by omega)).mp z)), if_pos (show (0 : Int32) ≤ 0 by decide)]
    have rf : RN (sI σ 28 9 0) t := h1.same (fun p _ _ => sI_place (by omega))
    have mf : RM (sI (sI τ 0 0 0) 0 10 0) t := (h2.slot (Or.inl rfl) 0).slot (Or.inr (by omega)) 0
    obtain ⟨s1, e1, g1, g2, g3⟩ := v_addNode (N := N) rf i (by omega) b
    obtain ⟨u1, k1, l1, l2, l3, l4, l5, l6⟩ := m_addsNode (N := N) mf i (by omega) b
    have hff : f_X3_forget N σ = some (sI σ 28 9 0) := rfl
    have hed : t.ed.testBit t.nN = false := Nat.testBit_lt_two_pow i.ed
    refine ⟨s1, u1, ⟨t.addN b, g1, l1, i.addN (by omega) b, fun j hj => ?_, ⟨mE, ?_, ?_, fun k hk => ?_, ?_, fun x y hxy hy hx' hy' => ?_⟩, 0, fun _ => ((0, 0, 0, 0), fun _ => 0), ?_, ?_, ?_, fun j hj => absurd hj (Nat.not_lt_zero j)⟩, Or.inr ⟨nI t.nN, ?_, ?_, ?_⟩⟩
    · obtain ⟨v1, v2, v3⟩ := h4 j hj
      rw [g2 57 (by omega), sI_place (by omega), v1]
      by_cases e : j = t.nN
      · subst e
        rw [l4, v3 hed]
        exact ⟨rfl, ⟨by decide, by decide⟩, fun _ => rfl⟩
      · rw [l5 j e, sI_place (by omega), sI_place (by omega)]
        refine ⟨rfl, v2, fun z => v3 ?_⟩
        cases b
        · exact z
        · cases hb : t.ed.testBit j
          · rfl
          · rw [show (t.addN true).ed = t.ed ||| 2 ^ t.nN from rfl, or_bit.mpr (Or.inl hb)] at z; exact absurd z (by decide)
    · rw [g2 40 (by omega), sI_place (by omega)]; exact a1
    · rw [l3 15 (by omega), sI_slot (by omega), sI_slot (by omega)]; exact a2
    · cases b
      · exact a3 k hk
      · exact or_bit.mpr (Or.inl (a3 k hk))
    · rw [l3 14 (by omega), sI_slot (by omega), sI_slot (by omega)]; exact a4
    · rw [g3, l6]; exact a5 x y hxy hy hx' hy'
    · rw [g2 28 (by omega)]; exact sI_same _ _ _ _
    · rw [l3 10 (by omega)]; exact sI_same _ _ _ _
    · show 3 * 0 + 3 * pc t.wr ≤ 36 + t.nW
      have := i.few; omega
    · rw [hff, bP_s, e1, bS_s]
    · rw [k1, bS_s]
    · rw [l3 0 (by omega), sI_slot (by omega)]; exact thr_0 _ _
end adds2
