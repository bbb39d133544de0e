/-! MINORS AND FORESTS BY ROOTS: the roots joined with one more node, 7; a node and a root exchanged. -/
def star (Q : List Nat) : List Ed := Q.map (fun q => (q, 7, 1))
/-- joined with a root, or with 7 -/
def AtR (S : List Ed) (Q : List Nat) (a : Nat) : Prop := ∃ q ∈ 7 :: Q, Cn S a q
theorem AtR.cn {S : List Ed} {Q : List Nat} {a b : Nat} (h : Cn S a b) (g : AtR S Q b) : AtR S Q a := by
  obtain ⟨q, hq, hc⟩ := g
  exact ⟨q, hq, h.trans hc⟩
theorem star_cn {S : List Ed} {Q : List Nat} {a b : Nat} : Cn (star Q ++ S) a b ↔ Cn S a b ∨ (AtR S Q a ∧ AtR S Q b) := by
  have hm : ∀ e ∈ S, e ∈ star Q ++ S := fun e he => List.mem_append_right _ he
  constructor
  · intro h
    refine h (fun x y => Cn S x y ∨ (AtR S Q x ∧ AtR S Q y)) (fun x => Or.inl Cn.rfl') ?_ ?_ ?_
    · rintro x y (h | ⟨h, g⟩)
      · exact Or.inl h.symm
      · exact Or.inr ⟨g, h⟩
    · rintro x y z (h | ⟨h, g⟩) (k | ⟨k, m⟩)
      · exact Or.inl (h.trans k)
      · exact Or.inr ⟨AtR.cn h k, m⟩
      · exact Or.inr ⟨h, AtR.cn k.symm g⟩
      · exact Or.inr ⟨h, m⟩
    · intro e he
      rcases List.mem_append.mp he with he | he
      · obtain ⟨q, hq, rfl⟩ := List.mem_map.mp he
        exact Or.inr ⟨⟨q, List.mem_cons_of_mem _ hq, Cn.rfl'⟩, ⟨7, List.mem_cons_self, Cn.rfl'⟩⟩
      · exact Or.inl (Cn.edge he)
  · have at7 : ∀ x, AtR S Q x → Cn (star Q ++ S) x 7 := fun x h => by
      obtain ⟨q, hq, hc⟩ := h
      rcases List.mem_cons.mp hq with rfl | hq
      · exact hc.mono hm
      · exact (hc.mono hm).trans (Cn.edge (e := (q, 7, 1)) (List.mem_append_left _ (List.mem_map.mpr ⟨q, hq, rfl⟩)))
    rintro (h | ⟨h, g⟩)
    · exact h.mono hm
    · exact (at7 a h).trans (at7 b g).symm
/-- no wire at 7 -/
def No7 (S : List Ed) : Prop := ∀ e ∈ S, e.1 ≠ 7 ∧ e.2.1 ≠ 7
theorem No7.cn {S : List Ed} {a : Nat} (h : No7 S) (hc : Cn S a 7) : a = 7 :=
  (hc (fun x y => x = 7 ↔ y = 7) (fun _ => Iff.rfl) (fun _ _ h => h.symm) (fun _ _ _ h g => h.trans g) (fun e he => ⟨fun z => absurd z (h e he).1, fun z => absurd z (h e he).2⟩)).mpr rfl
theorem star_ac {S : List Ed} (h7 : No7 S) : ∀ (Q : List Nat), Q.Nodup → 7 ∉ Q → (Ac (star Q ++ S) ↔ Ac S ∧ PD S Q)
  | [], _, _ => ⟨fun h => ⟨h, fun x hx => nomatch hx⟩, fun h => h.1⟩
  | q :: Q, hn, h => by
    have hn' := List.nodup_cons.mp hn
    have q7 : q ≠ 7 := fun e => h (e ▸ List.mem_cons_self)
    have ih := star_ac h7 Q hn'.2 (fun z => h (List.mem_cons_of_mem _ z))
    show (¬ Cn (star Q ++ S) q 7 ∧ Ac (star Q ++ S)) ↔ _
    rw [ih, star_cn]
    have a7 : AtR S Q 7 := ⟨7, List.mem_cons_self, Cn.rfl'⟩
    constructor
    · rintro ⟨h1, h2, h3⟩
      have hno : ∀ y ∈ Q, ¬ Cn S q y := fun y hy hc => h1 (Or.inr ⟨⟨y, List.mem_cons_of_mem _ hy, hc⟩, a7⟩)
      refine ⟨h2, fun x hx y hy hxy => ?_⟩
      rcases List.mem_cons.mp hx with e1 | k1 <;> rcases List.mem_cons.mp hy with e2 | k2
      · exact e1.trans e2.symm
      · subst e1; exact absurd hxy (hno y k2)
      · subst e2; exact absurd hxy.symm (hno x k1)
      · exact h3 x k1 y k2 hxy
    · rintro ⟨h2, h3⟩
      refine ⟨?_, h2, fun x hx y hy => h3 x (List.mem_cons_of_mem _ hx) y (List.mem_cons_of_mem _ hy)⟩
      rintro (hc | ⟨⟨y, hy, hc⟩, -⟩)
      · exact q7 (h7.cn hc)
      · rcases List.mem_cons.mp hy with rfl | hy
        · exact q7 (h7.cn hc)
        · have := h3 q List.mem_cons_self y (List.mem_cons_of_mem _ hy) hc
          subst this
          exact hn'.1 hy
theorem star_at {S : List Ed} {Q : List Nat} {v : Nat} (h7 : No7 S) (hv : v ≠ 7) : Cn (star Q ++ S) v 7 ↔ ∃ q ∈ Q, Cn S v q := by
  rw [star_cn]
  constructor
  · rintro (hc | ⟨⟨y, hy, hc⟩, -⟩)
    · exact absurd (h7.cn hc) hv
    · rcases List.mem_cons.mp hy with rfl | hy
      · exact absurd (h7.cn hc) hv
      · exact ⟨y, hy, hc⟩
  · rintro ⟨q, hq, hc⟩
    exact Or.inr ⟨⟨q, List.mem_cons_of_mem _ hq, hc⟩, ⟨7, List.mem_cons_self, Cn.rfl'⟩⟩
theorem lsQ_mem {t : Nt} {e : Ed} : ∀ {m : Nat}, e ∈ lsQ t m → ∃ w, w < m ∧ t.Q w = true ∧ e = t.g w
  | 0, h => nomatch h
  | m + 1, h => by
    unfold lsQ at h
    cases hq : t.Q m
    · rw [hq] at h
      obtain ⟨w, h1, h2⟩ := lsQ_mem (m := m) h
      exact ⟨w, by omega, h2⟩
    · rw [hq] at h
      rcases List.mem_cons.mp h with rfl | h
      · exact ⟨m, by omega, hq, rfl⟩
      · obtain ⟨w, h1, h2⟩ := lsQ_mem (m := m) h
        exact ⟨w, by omega, h2⟩
theorem Q_wr {t : Nt} {w : Nat} (h : t.Q w = true) : t.wr.testBit w = true := by
  unfold Nt.Q at h
  rw [Bool.and_eq_true] at h
  exact h.1
theorem mt_gen {t : Nt} (i : IN t) {R : Nat} {X : List Ed} {lab : Nat → Nat} {L : List Nat} (hR : ∀ k, R.testBit k = true → t.nd.testBit k = true) (hX : ∀ e ∈ X, t.nd.testBit e.1 = true ∧ t.nd.testBit e.2.1 = true) (hXa : Ac X ∧ PD X (rts R)) (hlab : LabOf (7 :: rts t.nd) 7 (star (rts R) ++ X).reverse lab L) :
    pd (LA lab (lsQ t 20)) L = ((sumW t.P t.g 20 (fun S => iC (Ac (X ++ S) ∧ PD (X ++ S) (rts R) ∧ pc t.nd = pc R + (X ++ S).length) (wt S) 0) : Nat) : Int) := by
  have h7 := i.nd7
  have hR7 : R < 128 := lt_of_bits (n := 7) (fun k hk => bit7 h7 (hR k hk))
  have n7 : 7 ∉ rts R := fun h => absurd (mem_rts.mp h).1 (by omega)
  have X7 : No7 X := fun e he => ⟨fun z => by have := bit7 h7 (hX e he).1; omega, fun z => by have := bit7 h7 (hX e he).2; omega⟩
  have hwf : ∀ w, t.Q w = true → (t.f w ∈ rts t.nd ∧ t.s w ∈ rts t.nd) := fun w hw => by
    have := i.wf w (Q_wr hw)
    exact ⟨mem_rts.mpr ⟨i.fb w, this.1⟩, mem_rts.mpr ⟨i.sb w, this.2⟩⟩
  rw [matrix_tree (r := 7) List.mem_cons_self (lsQ t 20) _ lab L (fun e he => by
    obtain ⟨w, h1, h2, rfl⟩ := lsQ_mem he
    exact ⟨List.mem_cons_of_mem _ (hwf w h2).1, List.mem_cons_of_mem _ (hwf w h2).2⟩) hlab]
  congr 1
  have hAcT : Ac (star (rts R) ++ X).reverse := Ac_reverse.mpr ((star_ac X7 (rts R) (rts_nodup R) n7).mpr hXa)
  rw [lsQ_dl, treeS_sum _ _ hAcT]
  have e1 : sumS (fun j => t.g ((pick t.Q 20).getD j 0)) (pick t.Q 20).length (fun S => iC (Ac (S.reverse ++ (star (rts R) ++ X).reverse) ∧ ∀ v ∈ 7 :: rts t.nd, Cn (S.reverse ++ (star (rts R) ++ X).reverse) v 7) (wt S) 0)
      = sumS (fun j => t.g ((pick t.Q 20).getD j 0)) (pick t.Q 20).length (fun S => iC (Ac (X ++ S) ∧ PD (X ++ S) (rts R) ∧ pc t.nd = pc R + (X ++ S).length) (wt S) 0) := by
    refine sumS_congr _ _ _ (fun S hS => iC_congr ?_)
    have hSe : ∀ e ∈ S, e.1 ∈ rts t.nd ∧ e.2.1 ∈ rts t.nd := fun e he => by
      obtain ⟨j, hj, rfl⟩ := hS.2 e he
      exact hwf _ (mem_pick.mp (getD_mem hj)).2
    have hYe : ∀ e ∈ X ++ S, e.1 ∈ rts t.nd ∧ e.2.1 ∈ rts t.nd := fun e he => by
      rcases List.mem_append.mp he with he | he
      · have := hX e he
        exact ⟨mem_rts.mpr ⟨bit7 h7 this.1, this.1⟩, mem_rts.mpr ⟨bit7 h7 this.2, this.2⟩⟩
      · exact hSe e he
    have Y7 : No7 (X ++ S) := fun e he => ⟨fun z => by have := (mem_rts.mp (hYe e he).1).1; omega, fun z => by have := (mem_rts.mp (hYe e he).2).1; omega⟩
    have er : S.reverse ++ (star (rts R) ++ X).reverse = (star (rts R) ++ (X ++ S)).reverse := by simp
    rw [er, Ac_reverse, star_ac Y7 (rts R) (rts_nodup R) n7]
    have hall : (∀ v ∈ 7 :: rts t.nd, Cn (star (rts R) ++ (X ++ S)).reverse v 7) ↔ ∀ v ∈ rts t.nd, ∃ q ∈ rts R, Cn (X ++ S) v q := by
      constructor
      · intro h v hv
        have v7 : v ≠ 7 := fun z => by have := (mem_rts.mp hv).1; omega
        exact (star_at Y7 v7).mp (Cn_reverse.mp (h v (List.mem_cons_of_mem _ hv)))
      · intro h v hv
        rcases List.mem_cons.mp hv with rfl | hv
        · exact Cn.rfl'
        · have v7 : v ≠ 7 := fun z => by have := (mem_rts.mp hv).1; omega
          exact Cn_reverse.mpr ((star_at Y7 v7).mpr (h v hv))
    rw [hall, and_assoc]
    refine and_congr_right (fun ha => ?_)
    have jr := just_rooted (Q := rts R) (V := rts t.nd) ha (rts_nodup R) (rts_nodup _) (fun x hx => mem_rts.mpr ⟨(mem_rts.mp hx).1, hR x (mem_rts.mp hx).2⟩) hYe
    rw [rts_len hR7, rts_len h7] at jr
    exact jr.symm
  rw [e1, ← sumW_pick (p := t.Q) (g := t.g) 20]
  exact (sumW_drop (p := t.Q) (q := t.P) 20 _ (fun j _ hj => Q_wr hj) (fun j _ hq hp S hS => iC_neg (fun h => Ac_ring (List.mem_append_right X hS) (by
    unfold Nt.Q at hp
    unfold Nt.P at hq
    rw [hq] at hp
    simpa [Nt.g] using hp) h.1))).symm
/-- the roots' label is 7 -/
def lab0 (R : Nat) (k : Nat) : Nat := if R.testBit k then 7 else k
theorem lab0_y {R k : Nat} (h : R.testBit k = true) : lab0 R k = 7 := by unfold lab0; rw [h]; rfl
theorem lab0_n {R k : Nat} (h : R.testBit k = false) : lab0 R k = k := by unfold lab0; rw [h]; rfl
theorem dlt_lab0 {R k a : Nat} (h : R.testBit k = false) (hk : k ≠ 7) : dlt k (lab0 R a) = dlt k a := by
  cases ha : R.testBit a
  · rw [lab0_n ha]
  · rw [lab0_y ha, dlt_ne hk, dlt_ne (fun e => by rw [e, ha] at h; exact absurd h (by decide))]
theorem LA_lab0 {R k l : Nat} (hk : R.testBit k = false) (hk7 : k ≠ 7) (hl : R.testBit l = false) (hl7 : l ≠ 7) : ∀ es : List Ed, LA (lab0 R) es k l = LA id es k l
  | [] => rfl
  | e :: es => by
    show LA (lab0 R) es k l + _ = LA id es k l + _
    rw [LA_lab0 hk hk7 hl hl7 es]
    have h1 : xv (lab0 R) e k = xv id e k := by unfold xv; rw [dlt_lab0 hk hk7, dlt_lab0 hk hk7]; rfl
    have h2 : xv (lab0 R) e l = xv id e l := by unfold xv; rw [dlt_lab0 hl hl7, dlt_lab0 hl hl7]; rfl
    rw [h1, h2]
theorem bit7f {R : Nat} (h : R < 128) : R.testBit 7 = false := Nat.testBit_lt_two_pow (show R < 2 ^ 7 from h)
/-- the minor of all but the roots counts the forests by roots -/
theorem mt_roots {t : Nt} (i : IN t) {R : Nat} {L : List Nat} (hR : ∀ k, R.testBit k = true → t.nd.testBit k = true) (hL : L.Nodup) (hm : ∀ z, z ∈ L ↔ t.nd.testBit z = true ∧ R.testBit z = false) : pd (LA id (lsQ t 20)) L = (cntC t R 0 0 : Int) := by
  have h7 := i.nd7
  have hR7 : R < 128 := lt_of_bits (n := 7) (fun k hk => bit7 h7 (hR k hk))
  have f7 := bit7f hR7
  have key := mt_gen i (R := R) (X := []) (lab := lab0 R) (L := L) hR (fun e he => nomatch he) ⟨trivial, fun x hx y hy h => Cn_nil.mp h⟩ ⟨fun a ha b hb => ?_, hL, fun l => ?_⟩
  · have e1 : pd (LA id (lsQ t 20)) L = pd (LA (lab0 R) (lsQ t 20)) L := pd_congr (fun k hk l hl => by
      have h1 := (hm k).mp hk
      have h2 := (hm l).mp hl
      have b1 := bit7 h7 h1.1
      have b2 := bit7 h7 h2.1
      exact (LA_lab0 h1.2 (by omega) h2.2 (by omega) _).symm)
    rw [e1, key]
    congr 1
    unfold cntC
    refine sumW_congr 20 _ _ (fun is _ _ => iC_congr ?_)
    rw [List.nil_append]
    exact ⟨fun h => ⟨by omega, h.1, h.2.1, Cn.rfl'⟩, fun h => ⟨h.2.1, h.2.2.1, by omega⟩⟩
  · rw [Cn_reverse, star_cn, Cn_nil]
    have at0 : ∀ z, AtR [] (rts R) z ↔ lab0 R z = 7 := fun z => by
      constructor
      · rintro ⟨q, hq, hc⟩
        have := Cn_nil.mp hc
        subst this
        rcases List.mem_cons.mp hq with rfl | hq
        · rw [lab0_n f7]
        · rw [lab0_y (mem_rts.mp hq).2]
      · intro h
        cases hz : R.testBit z
        · rw [lab0_n hz] at h; exact ⟨7, List.mem_cons_self, by rw [h]; exact Cn.rfl'⟩
        · exact ⟨z, List.mem_cons_of_mem _ (mem_rts.mpr ⟨bit7 hR7 hz, hz⟩), Cn.rfl'⟩
    rw [at0, at0]
    constructor
    · rintro (rfl | ⟨h1, h2⟩)
      · rfl
      · rw [h1, h2]
    · intro h
      cases hz : R.testBit a
      · cases hy : R.testBit b
        · rw [lab0_n hz, lab0_n hy] at h; exact Or.inl h
        · rw [lab0_y hy] at h; exact Or.inr ⟨h, lab0_y hy⟩
      · rw [lab0_y hz] at h; exact Or.inr ⟨lab0_y hz, h.symm⟩
  · rw [lab0_n f7, hm]
    constructor
    · rintro ⟨h1, h2⟩
      have := bit7 h7 h1
      exact ⟨⟨l, List.mem_cons_of_mem _ (mem_rts.mpr ⟨this, h1⟩), lab0_n h2⟩, by omega⟩
    · rintro ⟨⟨a, ha, rfl⟩, h2⟩
      cases hz : R.testBit a
      · rw [lab0_n hz] at h2 ⊢
        rcases List.mem_cons.mp ha with rfl | ha
        · exact absurd rfl h2
        · exact ⟨(mem_rts.mp ha).2, hz⟩
      · rw [lab0_y hz] at h2; exact absurd rfl h2
/-- two nodes made one: the forests of roots in which these two are joined by one wire more -/
noncomputable def cntM (t : Nt) (R x y : Nat) : Nat := sumW t.P t.g 20 (fun S => iC (Ac ((x, y, 1) :: S) ∧ PD ((x, y, 1) :: S) (rts R) ∧ pc t.nd = pc R + (S.length + 1)) (wt S) 0)
theorem mt_merge {t : Nt} (i : IN t) {R x y : Nat} {L : List Nat} (hR : ∀ k, R.testBit k = true → t.nd.testBit k = true) (hx : t.nd.testBit x = true) (hy : t.nd.testBit y = true) (rx : R.testBit x = false) (ry : R.testBit y = false) (hxy : x ≠ y) (hL : (y :: L).Nodup) (hm : ∀ z, z ∈ y :: L ↔ (t.nd.testBit z = true ∧ R.testBit z = false ∧ z ≠ x)) : pd (LA (mrg x y (lab0 R)) (lsQ t 20)) (y :: L) = (cntM t R x y : Int) := by
  have h7 := i.nd7
  have hR7 : R < 128 := lt_of_bits (n := 7) (fun k hk => bit7 h7 (hR k hk))
  have f7 := bit7f hR7
  have x7 := bit7 h7 hx
  have y7 := bit7 h7 hy
  have cX : ∀ a b, Cn [((x, y, 1) : Ed)] a b ↔ (a = b ∨ (a = x ∧ b = y) ∨ (a = y ∧ b = x)) := fun a b => by
    rw [Cn_cons, Cn_nil, Cn_nil, Cn_nil, Cn_nil, Cn_nil]
    constructor
    · rintro (h | ⟨h1, h2⟩ | ⟨h1, h2⟩)
      · exact Or.inl h
      · exact Or.inr (Or.inl ⟨h1, h2.symm⟩)
      · exact Or.inr (Or.inr ⟨h1, h2.symm⟩)
    · rintro (h | ⟨h1, h2⟩ | ⟨h1, h2⟩)
      · exact Or.inl h
      · exact Or.inr (Or.inl ⟨h1, h2.symm⟩)
      · exact Or.inr (Or.inr ⟨h1, h2.symm⟩)
  have rn : ∀ z ∈ rts R, z ≠ x ∧ z ≠ y := fun z hz => by
    have := (mem_rts.mp hz).2
    exact ⟨fun e => by rw [e, rx] at this; exact absurd this (by decide), fun e => by rw [e, ry] at this; exact absurd this (by decide)⟩
  have l0x : ∀ a, lab0 R a = x ↔ a = x := fun a => by
    cases hz : R.testBit a
    · rw [lab0_n hz]
    · rw [lab0_y hz]; exact ⟨fun e => by omega, fun e => by rw [e, rx] at hz; exact absurd hz (by decide)⟩
  have key := mt_gen i (R := R) (X := [(x, y, 1)]) (lab := mrg x y (lab0 R)) (L := y :: L) hR (fun e he => by rw [List.mem_singleton] at he; subst he; exact ⟨hx, hy⟩) ⟨⟨fun h => hxy (Cn_nil.mp h), trivial⟩, fun a ha b hb h => by
      rcases (cX a b).mp h with h | ⟨h1, h2⟩ | ⟨h1, h2⟩
      · exact h
      · exact absurd h1 (rn a ha).1
      · exact absurd h1 (rn a ha).2⟩ ⟨fun a ha b hb => ?_, hL, fun l => ?_⟩
  · exact key
  · rw [Cn_reverse, star_cn, cX]
    have at0 : ∀ z, AtR [((x, y, 1) : Ed)] (rts R) z ↔ lab0 R z = 7 := fun z => by
      constructor
      · rintro ⟨q, hq, hc⟩
        have hqx : q ≠ x ∧ q ≠ y := by
          rcases List.mem_cons.mp hq with rfl | hq
          · exact ⟨by omega, by omega⟩
          · exact rn q hq
        rcases (cX z q).mp hc with rfl | ⟨-, h⟩ | ⟨-, h⟩
        · rcases List.mem_cons.mp hq with rfl | hq
          · rw [lab0_n f7]
          · rw [lab0_y (mem_rts.mp hq).2]
        · exact absurd h hqx.2
        · exact absurd h hqx.1
      · intro h
        cases hz : R.testBit z
        · rw [lab0_n hz] at h; exact ⟨7, List.mem_cons_self, by rw [h]; exact Cn.rfl'⟩
        · exact ⟨z, List.mem_cons_of_mem _ (mem_rts.mpr ⟨bit7 hR7 hz, hz⟩), Cn.rfl'⟩
    rw [at0, at0]
    have mx : mrg x y (lab0 R) x = y := mrg_pos ((l0x x).mpr rfl)
    have mn' : ∀ z, z ≠ x → mrg x y (lab0 R) z = lab0 R z := fun z hz => mrg_neg (fun e => hz ((l0x z).mp e))
    have l0i : ∀ a b, lab0 R a = lab0 R b → a = b ∨ (lab0 R a = 7 ∧ lab0 R b = 7) := fun a b h => by
      cases hz : R.testBit a
      · cases hw : R.testBit b
        · rw [lab0_n hz, lab0_n hw] at h; exact Or.inl h
        · rw [lab0_y hw] at h; exact Or.inr ⟨h, lab0_y hw⟩
      · rw [lab0_y hz] at h; exact Or.inr ⟨lab0_y hz, h.symm⟩
    have y0 : lab0 R y = y := lab0_n ry
    have x0 : lab0 R x = x := lab0_n rx
    by_cases ax : a = x
    · by_cases bx : b = x
      · subst ax; subst bx; exact ⟨fun _ => rfl, fun _ => Or.inl (Or.inl rfl)⟩
      · subst ax
        rw [mx, mn' b bx, x0]
        constructor
        · rintro ((h | ⟨-, h⟩ | ⟨h, -⟩) | ⟨h, -⟩)
          · exact absurd h.symm bx
          · rw [h, y0]
          · exact absurd h hxy
          · omega
        · intro h
          rcases l0i y b (by rw [y0]; exact h) with h | ⟨h, -⟩
          · exact Or.inl (Or.inr (Or.inl ⟨rfl, h.symm⟩))
          · rw [y0] at h; omega
    · by_cases bx : b = x
      · subst bx
        rw [mx, mn' a ax, x0]
        constructor
        · rintro ((h | ⟨h, -⟩ | ⟨h, -⟩) | ⟨-, h⟩)
          · exact absurd h ax
          · exact absurd h ax
          · rw [h, y0]
          · omega
        · intro h
          rcases l0i a y (by rw [y0]; exact h) with h | ⟨-, h⟩
          · exact Or.inl (Or.inr (Or.inr ⟨h, rfl⟩))
          · rw [y0] at h; omega
      · rw [mn' a ax, mn' b bx]
        constructor
        · rintro ((h | ⟨h, -⟩ | ⟨-, h⟩) | ⟨h1, h2⟩)
          · rw [h]
          · exact absurd h ax
          · exact absurd h bx
          · rw [h1, h2]
        · intro h
          exact (l0i a b h).elim (fun h => Or.inl (Or.inl h)) Or.inr
  · have e7 : mrg x y (lab0 R) 7 = 7 := by rw [mrg_neg (by rw [lab0_n f7]; omega), lab0_n f7]
    rw [e7, hm]
    constructor
    · rintro ⟨h1, h2, h3⟩
      have := bit7 h7 h1
      exact ⟨⟨l, List.mem_cons_of_mem _ (mem_rts.mpr ⟨this, h1⟩), by rw [mrg_neg (fun e => h3 ((l0x l).mp e)), lab0_n h2]⟩, by omega⟩
    · rintro ⟨⟨a, ha, rfl⟩, h2⟩
      by_cases ax : a = x
      · subst ax
        rw [mrg_pos ((l0x a).mpr rfl)]
        exact ⟨hy, ry, hxy.symm⟩
      · rw [mrg_neg (fun e => ax ((l0x a).mp e))] at h2 ⊢
        cases hz : R.testBit a
        · rw [lab0_n hz] at h2 ⊢
          rcases List.mem_cons.mp ha with rfl | ha
          · exact absurd rfl h2
          · exact ⟨(mem_rts.mp ha).2, hz, ax⟩
        · rw [lab0_y hz] at h2; exact absurd rfl h2
