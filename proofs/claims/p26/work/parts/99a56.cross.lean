/-! A NODE WITH A ROOT: the crossed minor counts the forests in which they are together. -/
theorem sumW_add {p : Nat → Bool} {g : Nat → Ed} : ∀ (m : Nat) (F G : List Ed → Nat), sumW p g m (fun S => F S + G S) = sumW p g m F + sumW p g m G
  | 0, F, G => rfl
  | k + 1, F, G => by
    unfold sumW
    rw [sumW_add k F G, sumW_add k (fun S => F (g k :: S)) (fun S => G (g k :: S))]
    split <;> omega
theorem orb_t {R y k : Nat} : (R ||| 2 ^ y).testBit k = true ↔ (R.testBit k = true ∨ k = y) := by
  rw [fb_bit_set, Bool.or_eq_true, decide_eq_true_eq]
theorem orb_f {R y k : Nat} : (R ||| 2 ^ y).testBit k = false ↔ (R.testBit k = false ∧ k ≠ y) := by
  rw [fb_bit_set, Bool.or_eq_false_iff, decide_eq_false_iff_not]
theorem pc_orb {R y : Nat} (hR : R < 128) (hy : y < 7) (h : R.testBit y = false) : pc (R ||| 2 ^ y) = pc R + 1 := by
  have h1 : R ||| 2 ^ y < 128 := or_lt (n := 7) hR (Nat.pow_lt_pow_right (by decide) hy)
  have h2 := pc_mn h1 (orb_t.mpr (Or.inr rfl))
  have h3 : mn (R ||| 2 ^ y) (2 ^ y) = R := by
    apply Nat.eq_of_testBit_eq
    intro k
    rw [mn_bit, fb_bit_set, Nat.testBit_two_pow]
    by_cases e : k = y
    · subst e; rw [h]; simp
    · have e' : ¬ y = k := fun z => e z.symm
      simp [e, e']
  rw [h3] at h2
  omega
theorem cnt_merge {t : Nt} (i : IN t) {R x y : Nat} (hR : ∀ k, R.testBit k = true → t.nd.testBit k = true) (hx : t.nd.testBit x = true) (hy : t.nd.testBit y = true) (rx : R.testBit x = false) (ry : R.testBit y = false) (hxy : x ≠ y) :
    cntM t R x y + (cntC t (R ||| 2 ^ y) x y + cntC t (R ||| 2 ^ y) x y) = cntC t (R ||| 2 ^ y) 0 0 + cntC t (R ||| 2 ^ x) 0 0 := by
  have h7 := i.nd7
  have hR7 : R < 128 := lt_of_bits (n := 7) (fun k hk => bit7 h7 (hR k hk))
  have x7 := bit7 h7 hx
  have y7 := bit7 h7 hy
  have py := pc_orb hR7 y7 ry
  have px := pc_orb hR7 x7 rx
  unfold cntM cntC
  rw [← sumW_add, ← sumW_add, ← sumW_add]
  refine sumW_congr 20 _ _ (fun is _ hl => ?_)
  generalize hS : is.map t.g = S
  have hSe : ∀ e ∈ S, e.1 ∈ rts t.nd ∧ e.2.1 ∈ rts t.nd := fun e he => by
    rw [← hS] at he
    obtain ⟨w, hw, rfl⟩ := List.mem_map.mp he
    have := i.wf w (hl w hw).2
    exact ⟨mem_rts.mpr ⟨i.fb w, this.1⟩, mem_rts.mpr ⟨i.sb w, this.2⟩⟩
  by_cases hg : Ac S ∧ pc t.nd = pc R + (S.length + 1)
  · obtain ⟨ha, hlen⟩ := hg
    have mem : ∀ z w, w ∈ rts (R ||| 2 ^ z) ↔ w < 7 ∧ (R.testBit w = true ∨ w = z) := fun z w => by rw [mem_rts, orb_t]
    have root : ∀ z, z < 7 → t.nd.testBit z = true → R.testBit z = false → PD S (rts (R ||| 2 ^ z)) → ∀ v ∈ rts t.nd, ∃ q ∈ rts (R ||| 2 ^ z), Cn S v q := fun z z7 hz rz hp =>
      all_rooted ha (rts_nodup _) (fun w hw => mem_rts.mpr ⟨((mem z w).mp hw).1, ((mem z w).mp hw).2.elim (hR w) (fun e => e ▸ hz)⟩) hp hSe (by
        rw [rts_len h7, rts_len (or_lt (n := 7) hR7 (Nat.pow_lt_pow_right (by decide) z7)), pc_orb hR7 z7 rz]; omega)
    have bx : ∀ w, R.testBit w = true → w ≠ x := fun w hw e => by rw [e, rx] at hw; exact absurd hw (by decide)
    have by' : ∀ w, R.testBit w = true → w ≠ y := fun w hw e => by rw [e, ry] at hw; exact absurd hw (by decide)
    -- of two nodes u, v apart in S: with v a root the forest is one that the wire u v makes a forest of R
    have up : ∀ u v, u < 7 → v < 7 → t.nd.testBit u = true → t.nd.testBit v = true → R.testBit u = false → R.testBit v = false → u ≠ v → ¬ Cn S u v → PD S (rts (R ||| 2 ^ v)) → PD ((u, v, 1) :: S) (rts R) ∧ ¬ PD S (rts (R ||| 2 ^ u)) := fun u v u7 v7 hu hv ru rv huv hc hp => by
      have rm : ∀ w ∈ rts R, w ∈ rts (R ||| 2 ^ v) := fun w hw => (mem v w).mpr ⟨(mem_rts.mp hw).1, Or.inl (mem_rts.mp hw).2⟩
      have nv : ∀ w ∈ rts R, ¬ Cn S v w := fun w hw hcw => by
        have := hp v ((mem v v).mpr ⟨v7, Or.inr rfl⟩) w (rm w hw) hcw
        rw [← this] at hw
        rw [(mem_rts.mp hw).2] at rv; exact absurd rv (by decide)
      refine ⟨fun a h1 b h2 hab => ?_, fun hq => ?_⟩
      · rcases Cn_cons.mp hab with h | ⟨-, h⟩ | ⟨h, -⟩
        · exact hp a (rm a h1) b (rm b h2) h
        · exact absurd h (nv b h2)
        · exact absurd h.symm (nv a h1)
      · obtain ⟨q, hq1, hq2⟩ := root v v7 hv rv hp u (mem_rts.mpr ⟨u7, hu⟩)
        rcases ((mem v q).mp hq1).2 with z | z
        · have := hq u ((mem u u).mpr ⟨u7, Or.inr rfl⟩) q ((mem u q).mpr ⟨((mem v q).mp hq1).1, Or.inl z⟩) hq2
          rw [← this, ru] at z; exact absurd z (by decide)
        · rw [z] at hq2; exact hc hq2
    have sw : ∀ u v, u < 7 → v < 7 → R.testBit u = false → Cn S u v → PD S (rts (R ||| 2 ^ u)) → PD S (rts (R ||| 2 ^ v)) := fun u v u7 v7 ru huv hp a h1 b h2 hab => by
      have z1 := (mem v a).mp h1
      have z2 := (mem v b).mp h2
      have mu : u ∈ rts (R ||| 2 ^ u) := (mem u u).mpr ⟨u7, Or.inr rfl⟩
      rcases z1.2 with r1 | e1 <;> rcases z2.2 with r2 | e2
      · exact hp a ((mem u a).mpr ⟨z1.1, Or.inl r1⟩) b ((mem u b).mpr ⟨z2.1, Or.inl r2⟩) hab
      · rw [e2] at hab
        have e := hp a ((mem u a).mpr ⟨z1.1, Or.inl r1⟩) u mu (hab.trans huv.symm)
        rw [e, ru] at r1; exact absurd r1 (by decide)
      · rw [e1] at hab
        have e := hp u mu b ((mem u b).mpr ⟨z2.1, Or.inl r2⟩) (huv.trans hab)
        rw [← e, ru] at r2; exact absurd r2 (by decide)
      · rw [e1, e2]
    -- the wire x y with a root behind one of them
    have dn : ∀ u v q, u < 7 → v < 7 → R.testBit u = false → R.testBit v = false → ¬ Cn S u v → PD ((u, v, 1) :: S) (rts R) → q ∈ rts R → Cn S u q → PD S (rts (R ||| 2 ^ v)) := fun u v q u7 v7 ru rv hc hp hq hcq a h1 b h2 hab => by
      have z1 := (mem v a).mp h1
      have z2 := (mem v b).mp h2
      have no : ∀ w, w < 7 → R.testBit w = true → ¬ Cn S w v := fun w w7 rw' hwv => by
        have e := hp w (mem_rts.mpr ⟨w7, rw'⟩) q hq (Cn_cons.mpr (Or.inr (Or.inr ⟨hwv, hcq⟩)))
        subst e
        exact hc (hcq.trans hwv)
      rcases z1.2 with r1 | e1 <;> rcases z2.2 with r2 | e2
      · exact hp a (mem_rts.mpr ⟨z1.1, r1⟩) b (mem_rts.mpr ⟨z2.1, r2⟩) (hab.mono (fun e he => List.mem_cons_of_mem _ he))
      · rw [e2] at hab; exact absurd hab (no a z1.1 r1)
      · rw [e1] at hab; exact absurd hab.symm (no b z2.1 r2)
      · rw [e1, e2]
    have flip : ∀ u v a b, Cn ((u, v, 1) :: S) a b → Cn ((v, u, 1) :: S) a b := fun u v a b h => by
      rcases Cn_cons.mp h with h | h | h
      · exact Cn_cons.mpr (Or.inl h)
      · exact Cn_cons.mpr (Or.inr (Or.inr h))
      · exact Cn_cons.mpr (Or.inr (Or.inl h))
    have ly : S.length + pc (R ||| 2 ^ y) = pc t.nd := by omega
    have lx : S.length + pc (R ||| 2 ^ x) = pc t.nd := by omega
    by_cases hc : Cn S x y
    · have hm : ¬ (Ac ((x, y, 1) :: S) ∧ PD ((x, y, 1) :: S) (rts R) ∧ pc t.nd = pc R + (S.length + 1)) := fun h => h.1.1 hc
      rw [iC_neg hm, Nat.zero_add]
      by_cases hp : PD S (rts (R ||| 2 ^ y))
      · have hq := sw y x y7 x7 ry hc.symm hp
        rw [iC_pos ⟨ly, ha, hp, hc⟩, iC_pos ⟨ly, ha, hp, Cn.rfl'⟩, iC_pos ⟨lx, ha, hq, Cn.rfl'⟩]
      · have hq : ¬ PD S (rts (R ||| 2 ^ x)) := fun h => hp (sw x y x7 y7 rx hc h)
        rw [iC_neg (fun h => hp h.2.2.1), iC_neg (fun h => hp h.2.2.1), iC_neg (fun h => hq h.2.2.1)]
    · have hn : ¬ (S.length + pc (R ||| 2 ^ y) = pc t.nd ∧ Ac S ∧ PD S (rts (R ||| 2 ^ y)) ∧ Cn S x y) := fun h => hc h.2.2.2
      rw [iC_neg hn]
      by_cases hp : PD S (rts (R ||| 2 ^ y))
      · obtain ⟨h1, h2⟩ := up x y x7 y7 hx hy rx ry hxy hc hp
        rw [iC_pos ⟨⟨hc, ha⟩, h1, hlen⟩, iC_pos ⟨ly, ha, hp, Cn.rfl'⟩, iC_neg (fun h => h2 h.2.2.1)]
      · by_cases hq : PD S (rts (R ||| 2 ^ x))
        · obtain ⟨h1, -⟩ := up y x y7 x7 hy hx ry rx hxy.symm (fun h => hc h.symm) hq
          have h1' : PD ((x, y, 1) :: S) (rts R) := fun a za b zb hab => h1 a za b zb (flip x y a b hab)
          rw [iC_pos ⟨⟨hc, ha⟩, h1', hlen⟩, iC_neg (fun h => hp h.2.2.1), iC_pos ⟨lx, ha, hq, Cn.rfl'⟩]
          omega
        · have hm : ¬ (Ac ((x, y, 1) :: S) ∧ PD ((x, y, 1) :: S) (rts R) ∧ pc t.nd = pc R + (S.length + 1)) := fun h => by
            obtain ⟨q, hq1, hq2⟩ := all_rooted (S := (x, y, 1) :: S) (Q := rts R) (V := rts t.nd) h.1 (rts_nodup R) (fun w hw => mem_rts.mpr ⟨(mem_rts.mp hw).1, hR w (mem_rts.mp hw).2⟩) h.2.1 (fun e he => by
              rcases List.mem_cons.mp he with rfl | he
              · exact ⟨mem_rts.mpr ⟨x7, hx⟩, mem_rts.mpr ⟨y7, hy⟩⟩
              · exact hSe e he) (by rw [rts_len h7, rts_len hR7]; exact hlen) x (mem_rts.mpr ⟨x7, hx⟩)
            rcases Cn_cons.mp hq2 with z | ⟨-, z⟩ | ⟨z, -⟩
            · exact hp (dn x y q x7 y7 rx ry hc h.2.1 hq1 z)
            · exact hq (dn y x q y7 x7 ry rx (fun w => hc w.symm) (fun a za b zb hab => h.2.1 a za b zb (flip y x a b hab)) hq1 z)
            · exact hc z
          rw [iC_neg hm, iC_neg (fun h => hp h.2.2.1), iC_neg (fun h => hq h.2.2.1)]
  · rw [iC_neg (fun h => hg ⟨h.1.2, h.2.2⟩), iC_neg (fun h => hg ⟨h.2.1, by have := h.1; omega⟩), iC_neg (fun h => hg ⟨h.2.1, by have := h.1; omega⟩), iC_neg (fun h => hg ⟨h.2.1, by have := h.1; omega⟩)]
/-- the crossed minor: rows of x and all inner ones, columns of the root y and these -/
theorem am_cross {t : Nt} (i : IN t) {R x y : Nat} {L : List Nat} (hR : ∀ k, R.testBit k = true → t.nd.testBit k = true) (hL : (x :: y :: L).Nodup) (hm : ∀ z, z ∈ x :: y :: L ↔ (t.nd.testBit z = true ∧ R.testBit z = false)) : dt ((x :: L).map (LA id (lsQ t 20))) (y :: L) = - (cntC t (R ||| 2 ^ y) x y : Int) := by
  have h7 := i.nd7
  have mx := (hm x).mp List.mem_cons_self
  have my := (hm y).mp (List.mem_cons_of_mem _ List.mem_cons_self)
  have hn := List.nodup_cons.mp hL
  have hn2 := List.nodup_cons.mp hn.2
  have hxy : x ≠ y := fun e => hn.1 (e ▸ List.mem_cons_self)
  have hxL : x ∉ L := fun h => hn.1 (List.mem_cons_of_mem _ h)
  have hyL := hn2.1
  have hmz : ∀ z, z ∈ L → t.nd.testBit z = true ∧ R.testBit z = false := fun z hz => (hm z).mp (List.mem_cons_of_mem _ (List.mem_cons_of_mem _ hz))
  have memy : ∀ z, z ∈ y :: L ↔ (t.nd.testBit z = true ∧ R.testBit z = false ∧ z ≠ x) := fun z => by
    constructor
    · intro h
      have h1 := (hm z).mp (List.mem_cons_of_mem _ h)
      exact ⟨h1.1, h1.2, fun e => hn.1 (e ▸ h)⟩
    · rintro ⟨h1, h2, h3⟩
      exact (List.mem_cons.mp ((hm z).mpr ⟨h1, h2⟩)).elim (fun e => absurd e h3) id
  have memx : ∀ z, z ∈ x :: L ↔ (t.nd.testBit z = true ∧ R.testBit z = false ∧ z ≠ y) := fun z => by
    constructor
    · intro h
      rcases List.mem_cons.mp h with rfl | h
      · exact ⟨mx.1, mx.2, hxy⟩
      · exact ⟨(hmz z h).1, (hmz z h).2, fun e => hyL (e ▸ h)⟩
    · rintro ⟨h1, h2, h3⟩
      rcases List.mem_cons.mp ((hm z).mpr ⟨h1, h2⟩) with e | h
      · rw [e]; exact List.mem_cons_self
      · rcases List.mem_cons.mp h with e | h
        · exact absurd e h3
        · exact List.mem_cons_of_mem _ h
  have hxLn : (x :: L).Nodup := List.nodup_cons.mpr ⟨hxL, hn2.2⟩
  have sub : ∀ z, t.nd.testBit z = true → ∀ k, (R ||| 2 ^ z).testBit k = true → t.nd.testBit k = true := fun z hz k hk => (orb_t.mp hk).elim (hR k) (fun e => e ▸ hz)
  have p := pd_polar (A := LA (lab0 R) (lsQ t 20)) (B := LA (mrg x y (lab0 R)) (lsQ t 20)) (x := x) (y := y) (L := L) hyL (LA_sym _) (fun k hk l hl => LA_mrg hxy _ k l ((memy k).mp hk).2.2 ((memy l).mp hl).2.2)
  have q1 := mt_merge i hR mx.1 my.1 mx.2 my.2 hxy hn.2 memy
  have q2 := mt_roots i (R := R ||| 2 ^ x) (L := y :: L) (sub x mx.1) hn.2 (fun z => by rw [memy, orb_f])
  have q3 := mt_roots i (R := R ||| 2 ^ y) (L := x :: L) (sub y my.1) hxLn (fun z => by rw [memx, orb_f])
  have ent : ∀ k l, (t.nd.testBit k = true ∧ R.testBit k = false) → (t.nd.testBit l = true ∧ R.testBit l = false) → LA (lab0 R) (lsQ t 20) k l = LA id (lsQ t 20) k l := fun k l hk hl => by
    have b1 := bit7 h7 hk.1
    have b2 := bit7 h7 hl.1
    exact LA_lab0 hk.2 (by omega) hl.2 (by omega) _
  have c1 : pd (LA (lab0 R) (lsQ t 20)) (y :: L) = pd (LA id (lsQ t 20)) (y :: L) := pd_congr (fun k hk l hl => ent k l ⟨((memy k).mp hk).1, ((memy k).mp hk).2.1⟩ ⟨((memy l).mp hl).1, ((memy l).mp hl).2.1⟩)
  have c2 : pd (LA (lab0 R) (lsQ t 20)) (x :: L) = pd (LA id (lsQ t 20)) (x :: L) := pd_congr (fun k hk l hl => ent k l ⟨((memx k).mp hk).1, ((memx k).mp hk).2.1⟩ ⟨((memx l).mp hl).1, ((memx l).mp hl).2.1⟩)
  have c3 : dt ((x :: L).map (LA (lab0 R) (lsQ t 20))) (y :: L) = dt ((x :: L).map (LA id (lsQ t 20))) (y :: L) := by
    refine dt_map_congr (y :: L) (by simp) (fun j f g h1 h2 c hc => ?_)
    rw [List.getElem?_map] at h1 h2
    cases hk : (x :: L)[j]? with
    | none => rw [hk] at h1; cases h1
    | some k =>
      rw [hk] at h1 h2
      cases h1
      cases h2
      have mk := (memx k).mp (List.mem_of_getElem? hk)
      have mc := (memy c).mp hc
      exact ent k c ⟨mk.1, mk.2.1⟩ ⟨mc.1, mc.2.1⟩
  have q4 := cnt_merge i hR mx.1 my.1 mx.2 my.2 hxy
  rw [q1, c1, c2, c3, q2, q3] at p
  omega
