/-! THE VALUE OF AN EDGE; THE ANSWER OF TWO EDGES IS THEIRS BOTH; where it is not 0, the rest is not. -/
theorem sumW_pos {p : Nat → Bool} {g : Nat → Ed} : ∀ (m : Nat) (F : List Ed → Nat) (is : List Nat), is.Pairwise (fun a b => b < a) → (∀ i ∈ is, i < m ∧ p i = true) → 0 < F (is.map g) → 0 < sumW p g m F
  | 0, F, is, _, hl, hp => by
    cases is with
    | nil => exact hp
    | cons i is => exact absurd (hl i List.mem_cons_self).1 (Nat.not_lt_zero i)
  | k + 1, F, is, hpw, hl, hp => by
    unfold sumW
    by_cases hk : k ∈ is
    · obtain ⟨js, rfl⟩ : ∃ js, is = k :: js := by
        cases is with
        | nil => exact absurd hk List.not_mem_nil
        | cons i js =>
          rcases List.mem_cons.mp hk with h | h
          · exact ⟨js, by rw [h]⟩
          · have h1 := (List.pairwise_cons.mp hpw).1 k h
            have h2 := (hl i List.mem_cons_self).1
            omega
      rw [if_pos (hl k List.mem_cons_self).2]
      have hpw' := List.pairwise_cons.mp hpw
      have := sumW_pos k (fun S => F (g k :: S)) js hpw'.2 (fun i hi => ⟨hpw'.1 i hi, (hl i (List.mem_cons_of_mem _ hi)).2⟩) hp
      omega
    · have := sumW_pos k F is hpw (fun i hi => ⟨by
        have h1 := (hl i hi).1
        rcases Nat.lt_or_ge i k with h2 | h2
        · exact h2
        · exact absurd (show i = k by omega) (fun e => hk (e ▸ hi)), (hl i hi).2⟩) hp
      split <;> omega
theorem sumW_ex {p : Nat → Bool} {g : Nat → Ed} {m : Nat} {F : List Ed → Nat} (h : 0 < sumW p g m F) : ∃ is : List Nat, is.Pairwise (fun a b => b < a) ∧ (∀ i ∈ is, i < m ∧ p i = true) ∧ 0 < F (is.map g) := by
  refine Classical.byContradiction fun q => ?_
  have : sumW p g m F = sumW p g m (fun _ => 0) := sumW_congr m _ _ (fun is h1 h2 => Classical.byContradiction fun z => q ⟨is, h1, h2, by omega⟩)
  rw [sumW_zero] at this
  omega
theorem mn_two {S a k : Nat} : (mn S (2 ^ a)).testBit k = true ↔ (S.testBit k = true ∧ k ≠ a) := by
  rw [mn_bit, Nat.testBit_two_pow, Bool.and_eq_true, Bool.not_eq_true', decide_eq_false_iff_not]
  exact ⟨fun h => ⟨h.1, fun e => h.2 e.symm⟩, fun h => ⟨h.1, fun e => h.2 e.symm⟩⟩
theorem PD_sym {S a b : Nat} {T : List Ed} (hS : S < 128) (hb : S.testBit b = true) (hab : a ≠ b) (hc : Cn T a b) (h : PD T (rts (mn S (2 ^ a)))) : PD T (rts (mn S (2 ^ b))) := by
  intro x hx y hy hxy
  obtain ⟨x7, hx⟩ := mem_rts.mp hx
  obtain ⟨y7, hy⟩ := mem_rts.mp hy
  obtain ⟨xS, xb⟩ := mn_two.mp hx
  obtain ⟨yS, yb⟩ := mn_two.mp hy
  have b7 := bit7 hS hb
  have inA : ∀ z, z < 7 → S.testBit z = true → z ≠ a → z ∈ rts (mn S (2 ^ a)) := fun z z7 zS za => mem_rts.mpr ⟨z7, mn_two.mpr ⟨zS, za⟩⟩
  by_cases xa : x = a
  · by_cases ya : y = a
    · rw [xa, ya]
    · subst xa
      exact absurd (h b (inA b b7 hb (fun e => hab e.symm)) y (inA y y7 yS ya) (hc.symm.trans hxy)) (fun e => yb e.symm)
  · by_cases ya : y = a
    · subst ya
      exact absurd (h x (inA x x7 xS xa) b (inA b b7 hb (fun e => hab e.symm)) (hxy.trans hc)) xb
    · exact h x (inA x x7 xS xa) y (inA y y7 yS ya) hxy
/-- the count of an answer is the same for both orders -/
theorem cnt_sym {t : Nt} (i : IN t) {a b : Nat} (ha : t.ed.testBit a = true) (hb : t.ed.testBit b = true) (hab : a ≠ b) : cntC t (mn t.ed (2 ^ a)) a b = cntC t (mn t.ed (2 ^ b)) b a := by
  have h7 := i.ed7
  have p1 := pc_mn h7 ha
  have p2 := pc_mn h7 hb
  unfold cntC
  refine sumW_congr 20 _ _ (fun is _ _ => iC_congr ?_)
  constructor
  · rintro ⟨h1, h2, h3, h4⟩
    exact ⟨by omega, h2, PD_sym h7 hb hab h4 h3, h4.symm⟩
  · rintro ⟨h1, h2, h3, h4⟩
    exact ⟨by omega, h2, PD_sym h7 ha hab.symm h4 h3, h4.symm⟩
theorem cnt_pos_ex {t : Nt} {R x y : Nat} (h : 0 < cntC t R x y) : ∃ is : List Nat, is.Pairwise (fun a b => b < a) ∧ (∀ i ∈ is, i < 20 ∧ t.P i = true) ∧ (is.map t.g).length + pc R = pc t.nd ∧ Ac (is.map t.g) ∧ PD (is.map t.g) (rts R) ∧ Cn (is.map t.g) x y := by
  obtain ⟨is, h1, h2, h3⟩ := sumW_ex h
  refine ⟨is, h1, h2, Classical.byContradiction fun q => ?_⟩
  rw [iC_neg q] at h3
  exact absurd h3 (Nat.lt_irrefl 0)
theorem cnt_pos {t : Nt} (i : IN t) {R x y : Nat} {is : List Nat} (h1 : is.Pairwise (fun a b => b < a)) (h2 : ∀ i ∈ is, i < 20 ∧ t.P i = true) (h3 : (is.map t.g).length + pc R = pc t.nd ∧ Ac (is.map t.g) ∧ PD (is.map t.g) (rts R) ∧ Cn (is.map t.g) x y) : 0 < cntC t R x y := by
  refine sumW_pos 20 _ is h1 h2 ?_
  rw [iC_pos h3]
  refine (wt_bound _ (fun e he => ?_)).1
  obtain ⟨j, hj, rfl⟩ := List.mem_map.mp he
  exact i.cb j (h2 j hj).2
/-- with the answer of two edges not 0, the rest is not 0 -/
theorem rest_pos {t : Nt} (i : IN t) {a b : Nat} (ha : t.ed.testBit a = true) (hb : t.ed.testBit b = true) (hab : a ≠ b) (h : 0 < cntC t (mn t.ed (2 ^ a)) a b) : 0 < cntC t t.ed 0 0 := by
  have h7 := i.ed7
  have p1 := pc_mn h7 ha
  obtain ⟨is, h1, h2, h3, h4, h5, h6⟩ := cnt_pos_ex h
  obtain ⟨P, e, Q, hT, hnc⟩ := cut_wire (is.map t.g) a b h4 h6 hab
  obtain ⟨is1, is2', rfl, e1, e2⟩ := List.map_eq_append_iff.mp hT
  obtain ⟨j, is2, rfl, e3, e4⟩ := List.map_eq_cons_iff.mp e2
  subst e1; subst e3; subst e4
  rw [hT] at h3 h4 h5 h6
  have sub : ∀ x y, Cn (is1.map t.g ++ is2.map t.g) x y → Cn (is1.map t.g ++ t.g j :: is2.map t.g) x y := fun x y q => q.mono (fun z hz => by
    rcases List.mem_append.mp hz with hz | hz
    · exact List.mem_append_left _ hz
    · exact List.mem_append_right _ (List.mem_cons_of_mem _ hz))
  refine cnt_pos i (is := is1 ++ is2) (h1.sublist (List.Sublist.append (List.Sublist.refl _) (List.sublist_cons_self _ _))) (fun k hk => h2 k (by
    rcases List.mem_append.mp hk with hk | hk
    · exact List.mem_append_left _ hk
    · exact List.mem_append_right _ (List.mem_cons_of_mem _ hk))) ?_
  rw [List.map_append]
  refine ⟨?_, h4.cut, fun x hx y hy hxy => ?_, Cn.rfl'⟩
  · simp only [List.length_append, List.length_cons, List.length_map] at h3 ⊢
    omega
  · obtain ⟨x7, xS⟩ := mem_rts.mp hx
    obtain ⟨y7, yS⟩ := mem_rts.mp hy
    have b7 := bit7 h7 hb
    have inA : ∀ z, z < 7 → t.ed.testBit z = true → z ≠ a → z ∈ rts (mn t.ed (2 ^ a)) := fun z z7 zS za => mem_rts.mpr ⟨z7, mn_two.mpr ⟨zS, za⟩⟩
    by_cases xa : x = a
    · by_cases ya : y = a
      · rw [xa, ya]
      · subst xa
        have e := h5 b (inA b b7 hb (fun e => hab e.symm)) y (inA y y7 yS ya) (h6.symm.trans (sub _ _ hxy))
        exact absurd (e ▸ hxy) hnc
    · by_cases ya : y = a
      · subst ya
        have e := h5 b (inA b b7 hb (fun e => hab e.symm)) x (inA x x7 xS xa) (h6.symm.trans (sub _ _ hxy.symm))
        exact absurd (e ▸ hxy.symm) hnc
      · exact h5 x (inA x x7 xS xa) y (inA y y7 yS ya) (sub _ _ hxy)
section val
variable {N : Nat} {σ τ : Wd} {t : Nt}
end val
