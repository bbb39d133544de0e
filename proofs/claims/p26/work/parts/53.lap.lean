/-! THE WIRES' MATRIX, AND ITS MINOR WITHOUT ONE NODE: the count of the trees. -/
noncomputable def iC (P : Prop) (a b : Nat) : Nat := @ite _ P (Classical.propDecidable P) a b
theorem iC_pos {P : Prop} {a b : Nat} (h : P) : iC P a b = a := if_pos h
theorem iC_neg {P : Prop} {a b : Nat} (h : ¬ P) : iC P a b = b := if_neg h
theorem iC_congr {P Q : Prop} {a b : Nat} (h : P ↔ Q) : iC P a b = iC Q a b := by
  by_cases hp : P
  · rw [iC_pos hp, iC_pos (h.mp hp)]
  · rw [iC_neg hp, iC_neg (fun q => hp (h.mpr q))]
def dlt (k a : Nat) : Int := if k = a then 1 else 0
theorem dlt_self (k : Nat) : dlt k k = 1 := if_pos rfl
theorem dlt_ne {k a : Nat} (h : k ≠ a) : dlt k a = 0 := if_neg h
def xv (lab : Nat → Nat) (e : Ed) (k : Nat) : Int := dlt k (lab e.1) - dlt k (lab e.2.1)
def LA (lab : Nat → Nat) : List Ed → Nat → Nat → Int
  | [], _, _ => 0
  | e :: es, k, l => LA lab es k l + (e.2.2 : Int) * (xv lab e k * xv lab e l)
def mrg (x y : Nat) (lab : Nat → Nat) : Nat → Nat := fun i => if lab i = x then y else lab i
theorem mrg_pos {x y i : Nat} {lab : Nat → Nat} (h : lab i = x) : mrg x y lab i = y := if_pos h
theorem mrg_neg {x y i : Nat} {lab : Nat → Nat} (h : lab i ≠ x) : mrg x y lab i = lab i := if_neg h
theorem dlt_mrg {x y k i : Nat} {lab : Nat → Nat} (hk : k ≠ x) : dlt k (mrg x y lab i) = dlt k (lab i) + (if k = y then dlt x (lab i) else 0) := by
  by_cases h : lab i = x
  · rw [mrg_pos h, h, dlt_ne hk, dlt_self]
    by_cases hy : k = y
    · rw [if_pos hy, hy, dlt_self]; rfl
    · rw [if_neg hy, dlt_ne hy]; rfl
  · rw [mrg_neg h]
    by_cases hy : k = y
    · rw [if_pos hy, dlt_ne (fun e => h e.symm)]; omega
    · rw [if_neg hy]; omega
theorem xv_mrg {x y k : Nat} {lab : Nat → Nat} {e : Ed} (hk : k ≠ x) : xv (mrg x y lab) e k = xv lab e k + (if k = y then xv lab e x else 0) := by
  unfold xv
  rw [dlt_mrg hk, dlt_mrg hk]
  by_cases hy : k = y
  · rw [if_pos hy, if_pos hy, if_pos hy]; omega
  · rw [if_neg hy, if_neg hy, if_neg hy]; omega
theorem LA_mrg {x y : Nat} {lab : Nat → Nat} (hxy : x ≠ y) : ∀ (es : List Ed) (k l : Nat), k ≠ x → l ≠ x → LA (mrg x y lab) es k l = mg x y (fun z => if k = y then LA lab es y z + LA lab es x z else LA lab es k z) l
  | [], k, l, _, _ => by
    show (0 : Int) = if l = y then _ else _
    show (0 : Int) = if l = y then ((if k = y then (0 : Int) + 0 else 0) + (if k = y then (0 : Int) + 0 else 0)) else (if k = y then (0 : Int) + 0 else 0)
    split <;> split <;> rfl
  | e :: es, k, l, hk, hl => by
    have ih := LA_mrg (lab := lab) hxy es k l hk hl
    show LA (mrg x y lab) es k l + (e.2.2 : Int) * (xv (mrg x y lab) e k * xv (mrg x y lab) e l) = _
    rw [ih, xv_mrg hk, xv_mrg hl]
    show (if l = y then _ else _) + _ = if l = y then _ else _
    by_cases hy : l = y <;> by_cases hz : k = y
    · simp only [if_pos hy, if_pos hz]
      subst hy; subst hz
      simp only [LA, Int.mul_add, Int.add_mul]
      omega
    · simp only [if_pos hy, if_neg hz]
      subst hy
      simp only [LA, Int.mul_add, Int.add_mul, Int.add_zero, Int.mul_zero, Int.zero_mul]
      omega
    · simp only [if_neg hy, if_pos hz]
      subst hz
      simp only [LA, Int.mul_add, Int.add_mul, Int.add_zero, Int.mul_zero, Int.zero_mul]
      omega
    · simp only [if_neg hy, if_neg hz, LA, Int.add_zero]
theorem pd_two {A : Nat → Nat → Int} {x y : Nat} {L : List Nat} (hx : x ∈ L) (hy : y ∈ L) (hxy : x ≠ y) (hn : L.Nodup) : ∃ L2 : List Nat, (∀ A : Nat → Nat → Int, pd A L = pd A (x :: y :: L2)) ∧ (x :: y :: L2).Nodup ∧ ∀ z, z ∈ L ↔ z ∈ x :: y :: L2 := by
  obtain ⟨P, Q, rfl⟩ := List.append_of_mem hx
  have hy2 : y ∈ P ++ Q := by
    rcases List.mem_append.mp hy with h | h
    · exact List.mem_append_left _ h
    · rcases List.mem_cons.mp h with h | h
      · exact absurd h.symm hxy
      · exact List.mem_append_right _ h
  obtain ⟨P', Q', h2⟩ := List.append_of_mem hy2
  have hp1 : (P ++ x :: Q).Perm (x :: (P ++ Q)) := List.perm_middle
  have hp2 : (P ++ Q).Perm (y :: (P' ++ Q')) := by rw [h2]; exact List.perm_middle
  have hp : (P ++ x :: Q).Perm (x :: y :: (P' ++ Q')) := hp1.trans (List.Perm.cons x hp2)
  refine ⟨P' ++ Q', fun A => ?_, hp.nodup_iff.mp hn, fun z => hp.mem_iff⟩
  rw [pd_front P.length P Q rfl, h2, show x :: (P' ++ y :: Q') = (x :: P') ++ y :: Q' from rfl, pd_front (x :: P').length (x :: P') Q' rfl]
  exact pd_swap [] (P' ++ Q')
theorem pd_one {x : Nat} {L : List Nat} (hx : x ∈ L) (hn : L.Nodup) : ∃ L2 : List Nat, (∀ A : Nat → Nat → Int, pd A L = pd A (x :: L2)) ∧ (x :: L2).Nodup ∧ ∀ z, z ∈ L ↔ z ∈ x :: L2 := by
  obtain ⟨P, Q, rfl⟩ := List.append_of_mem hx
  have hp1 : (P ++ x :: Q).Perm (x :: (P ++ Q)) := List.perm_middle
  exact ⟨P ++ Q, fun A => pd_front P.length P Q rfl, hp1.nodup_iff.mp hn, fun z => hp1.mem_iff⟩
/-- the trees, wire by wire, those of T taken already -/
noncomputable def treeS (V : List Nat) (r : Nat) : List Ed → List Ed → Nat
  | [], T => iC (∀ v ∈ V, Cn T v r) 1 0
  | e :: es, T => treeS V r es T + iC (Cn T e.1 e.2.1) 0 (e.2.2 * treeS V r es (e :: T))
/-- what the labels say while wires are taken -/
def LabOf (V : List Nat) (r : Nat) (T : List Ed) (lab : Nat → Nat) (L : List Nat) : Prop := (∀ i ∈ V, ∀ j ∈ V, (Cn T i j ↔ lab i = lab j)) ∧ L.Nodup ∧ ∀ l, l ∈ L ↔ (∃ i ∈ V, lab i = l) ∧ l ≠ lab r
theorem LabOf.step {V : List Nat} {r : Nat} {T : List Ed} {lab : Nat → Nat} {L L2 : List Nat} {e : Ed} {x y : Nat} (h : LabOf V r T lab L) (hr : r ∈ V) (ha : e.1 ∈ V) (hb : e.2.1 ∈ V) (hne : lab e.1 ≠ lab e.2.1) (hxy : (x = lab e.1 ∧ y = lab e.2.1) ∨ (x = lab e.2.1 ∧ y = lab e.1)) (hx : x ≠ lab r) (hn : (x :: L2).Nodup) (hL : ∀ z, z ∈ L ↔ z ∈ x :: L2) : LabOf V r (e :: T) (mrg x y lab) L2 := by
  obtain ⟨h1, h2, h3⟩ := h
  have hxne : x ≠ y := by rcases hxy with ⟨rfl, rfl⟩ | ⟨rfl, rfl⟩; exact hne; exact hne.symm
  have hm : ∀ i j, (mrg x y lab i = mrg x y lab j) ↔ (lab i = lab j ∨ (lab i = x ∧ lab j = y) ∨ (lab i = y ∧ lab j = x)) := fun i j => by
    by_cases hi : lab i = x <;> by_cases hj : lab j = x
    · rw [mrg_pos hi, mrg_pos hj, hi, hj]; simp
    · rw [mrg_pos hi, mrg_neg hj]
      constructor
      · intro q; exact Or.inr (Or.inl ⟨hi, q.symm⟩)
      · rintro (q | ⟨_, q⟩ | ⟨q, q2⟩)
        · exact absurd (q.symm.trans hi) hj
        · exact q.symm
        · exact absurd q2 hj
    · rw [mrg_neg hi, mrg_pos hj]
      constructor
      · intro q; exact Or.inr (Or.inr ⟨q, hj⟩)
      · rintro (q | ⟨q, _⟩ | ⟨q, _⟩)
        · exact absurd (q.trans hj) hi
        · exact absurd q hi
        · exact q
    · rw [mrg_neg hi, mrg_neg hj]
      constructor
      · exact Or.inl
      · rintro (q | ⟨q, _⟩ | ⟨_, q⟩)
        · exact q
        · exact absurd q hi
        · exact absurd q hj
  refine ⟨fun i hi j hj => ?_, (List.nodup_cons.mp hn).2, fun l => ?_⟩
  · rw [Cn_cons, h1 i hi j hj, h1 i hi _ ha, h1 _ hb j hj, h1 i hi _ hb, h1 _ ha j hj, hm]
    rcases hxy with ⟨rfl, rfl⟩ | ⟨rfl, rfl⟩
    · constructor
      · rintro (q | ⟨q, q2⟩ | ⟨q, q2⟩)
        · exact Or.inl q
        · exact Or.inr (Or.inl ⟨q, q2.symm⟩)
        · exact Or.inr (Or.inr ⟨q, q2.symm⟩)
      · rintro (q | ⟨q, q2⟩ | ⟨q, q2⟩)
        · exact Or.inl q
        · exact Or.inr (Or.inl ⟨q, q2.symm⟩)
        · exact Or.inr (Or.inr ⟨q, q2.symm⟩)
    · constructor
      · rintro (q | ⟨q, q2⟩ | ⟨q, q2⟩)
        · exact Or.inl q
        · exact Or.inr (Or.inr ⟨q, q2.symm⟩)
        · exact Or.inr (Or.inl ⟨q, q2.symm⟩)
      · rintro (q | ⟨q, q2⟩ | ⟨q, q2⟩)
        · exact Or.inl q
        · exact Or.inr (Or.inr ⟨q, q2.symm⟩)
        · exact Or.inr (Or.inl ⟨q, q2.symm⟩)
  · have hr' : mrg x y lab r = lab r := mrg_neg (fun q => hx q.symm)
    have hl : l ∈ L2 ↔ l ∈ L ∧ l ≠ x := by
      rw [hL l]
      constructor
      · intro q; exact ⟨List.mem_cons_of_mem _ q, fun q2 => (List.nodup_cons.mp hn).1 (q2 ▸ q)⟩
      · rintro ⟨q, q2⟩; exact (List.mem_cons.mp q).elim (fun z => absurd z q2) id
    rw [hl, h3, hr']
    constructor
    · rintro ⟨⟨⟨i, hi, rfl⟩, q2⟩, q3⟩
      exact ⟨⟨i, hi, mrg_neg q3⟩, q2⟩
    · rintro ⟨⟨i, hi, q⟩, q2⟩
      have hy : ∃ j ∈ V, lab j = y := by rcases hxy with ⟨-, rfl⟩ | ⟨-, rfl⟩; exact ⟨_, hb, rfl⟩; exact ⟨_, ha, rfl⟩
      by_cases hix : lab i = x
      · rw [mrg_pos hix] at q
        subst q
        exact ⟨⟨hy, q2⟩, fun z => hxne z.symm⟩
      · rw [mrg_neg hix] at q
        subst q
        exact ⟨⟨⟨i, hi, rfl⟩, q2⟩, hix⟩
theorem pd_zero : ∀ (L : List Nat), L ≠ [] → pd (fun _ _ => 0) L = 0
  | [], h => absurd rfl h
  | x :: L, _ => by
    have h0 : ∀ (cs pre : List Nat) (D : List Nat → Int), ex (fun _ => 0) D pre cs = 0 := by
      intro cs
      induction cs with
      | nil => intros; rfl
      | cons d cs ih => intro pre D; show (0 : Int) * _ - _ = 0; rw [ih]; omega
    exact h0 _ _ _
theorem matrix_tree {V : List Nat} {r : Nat} (hr : r ∈ V) : ∀ (es T : List Ed) (lab : Nat → Nat) (L : List Nat), (∀ e ∈ es, e.1 ∈ V ∧ e.2.1 ∈ V) → LabOf V r T lab L → pd (LA lab es) L = (treeS V r es T : Int)
  | [], T, lab, L, _, h => by
    obtain ⟨h1, h2, h3⟩ := h
    show pd (fun _ _ => 0) L = ((iC (∀ v ∈ V, Cn T v r) 1 0 : Nat) : Int)
    by_cases hL : L = []
    · subst hL
      rw [iC_pos]
      · rfl
      · intro v hv
        refine (h1 v hv r hr).mpr (Classical.byContradiction fun q => ?_)
        exact absurd ((h3 (lab v)).mpr ⟨⟨v, hv, rfl⟩, q⟩) List.not_mem_nil
    · rw [pd_zero L hL, iC_neg]
      · rfl
      · intro q
        obtain ⟨x, hx⟩ := List.exists_mem_of_ne_nil L hL
        obtain ⟨⟨i, hi, rfl⟩, q2⟩ := (h3 x).mp hx
        exact q2 ((h1 i hi r hr).mp (q i hi))
  | e :: es, T, lab, L, hv, h => by
    have hve := hv e List.mem_cons_self
    have hv' : ∀ z ∈ es, z.1 ∈ V ∧ z.2.1 ∈ V := fun z hz => hv z (List.mem_cons_of_mem _ hz)
    have ih0 := matrix_tree hr es T lab L hv' h
    have hT : treeS V r (e :: es) T = treeS V r es T + iC (Cn T e.1 e.2.1) 0 (e.2.2 * treeS V r es (e :: T)) := rfl
    rw [hT]
    by_cases hc : Cn T e.1 e.2.1
    · rw [iC_pos hc, Nat.add_zero, ← ih0]
      have hl := (h.1 _ hve.1 _ hve.2).mp hc
      refine pd_congr (fun k _ l _ => ?_)
      show LA lab es k l + (e.2.2 : Int) * ((dlt k (lab e.1) - dlt k (lab e.2.1)) * _) = _
      rw [hl, Int.sub_self, Int.zero_mul, Int.mul_zero, Int.add_zero]
    · rw [iC_neg hc]
      have hne : lab e.1 ≠ lab e.2.1 := fun q => hc ((h.1 _ hve.1 _ hve.2).mpr q)
      have push : ((treeS V r es T + e.2.2 * treeS V r es (e :: T) : Nat) : Int) = (treeS V r es T : Int) + (e.2.2 : Int) * (treeS V r es (e :: T) : Int) := by simp
      rw [push, ← ih0]
      -- one end with the root, the other one not
      have one : ∀ x y : Nat, ((x = lab e.1 ∧ y = lab e.2.1) ∨ (x = lab e.2.1 ∧ y = lab e.1)) → x ∈ L → y = lab r → pd (LA lab (e :: es)) L = pd (LA lab es) L + (e.2.2 : Int) * (treeS V r es (e :: T) : Int) := by
        intro x y hxy hx hy
        obtain ⟨L2, hp, hn, hm⟩ := pd_one hx h.2.1
        have hxr : x ≠ lab r := ((h.2.2 x).mp hx).2
        have hyL : ∀ k ∈ L, k ≠ y := fun k hk q => ((h.2.2 k).mp hk).2 (q.trans hy)
        have ih := matrix_tree hr es (e :: T) (mrg x y lab) L2 hv' (h.step hr hve.1 hve.2 hne hxy hxr hn hm)
        rw [hp, hp, ← ih]
        have hx2 := (List.nodup_cons.mp hn).1
        have e1 : pd (LA lab (e :: es)) (x :: L2) = pd (fun k l => LA lab es k l + (e.2.2 : Int) * (if k = x ∧ l = x then 1 else 0)) (x :: L2) := by
          refine pd_congr (fun k hk l hl => ?_)
          show LA lab es k l + (e.2.2 : Int) * (xv lab e k * xv lab e l) = _
          have hxk : ∀ k ∈ x :: L2, xv lab e k * xv lab e k = dlt k x ∧ (xv lab e k = dlt k x ∨ xv lab e k = - dlt k x) := fun k hk => by
            have hky := hyL k ((hm k).mpr hk)
            rcases hxy with ⟨rfl, rfl⟩ | ⟨rfl, rfl⟩
            · unfold xv
              rw [dlt_ne hky, Int.sub_zero]
              refine ⟨?_, Or.inl rfl⟩
              unfold dlt; split <;> rfl
            · unfold xv
              rw [dlt_ne hky, Int.zero_sub]
              refine ⟨?_, Or.inr rfl⟩
              unfold dlt; split <;> rfl
          congr 2
          by_cases hkx : k = x <;> by_cases hlx : l = x
          · rw [hkx, hlx, (hxk x List.mem_cons_self).1, dlt_self, if_pos ⟨rfl, rfl⟩]
          · rw [if_neg (fun q => hlx q.2)]
            rcases (hxk l hl).2 with q | q <;> rw [q, dlt_ne hlx] <;> simp
          · rw [if_neg (fun q => hkx q.1)]
            rcases (hxk k hk).2 with q | q <;> rw [q, dlt_ne hkx] <;> simp
          · rw [if_neg (fun q => hkx q.1)]
            rcases (hxk k hk).2 with q | q <;> rw [q, dlt_ne hkx] <;> simp
        have e2 : pd (LA (mrg x y lab) es) L2 = pd (LA lab es) L2 := by
          refine pd_congr (fun k hk l hl => ?_)
          have hkx : k ≠ x := fun q => hx2 (q ▸ hk)
          have hlx : l ≠ x := fun q => hx2 (q ▸ hl)
          have hky := hyL k ((hm k).mpr (List.mem_cons_of_mem _ hk))
          have hly := hyL l ((hm l).mpr (List.mem_cons_of_mem _ hl))
          rw [LA_mrg (by rcases hxy with ⟨rfl, rfl⟩ | ⟨rfl, rfl⟩; exact hne; exact hne.symm) es k l hkx hlx]
          show (if l = y then _ else _) = _
          rw [if_neg hly]
          show (if k = y then _ else _) = _
          rw [if_neg hky]
        rw [e1, pd_diag _ hx2, e2]
      by_cases ha : lab e.1 = lab r
      · have hb : lab e.2.1 ∈ L := (h.2.2 _).mpr ⟨⟨_, hve.2, rfl⟩, fun q => hne (ha.trans q.symm)⟩
        exact one _ _ (Or.inr ⟨rfl, rfl⟩) hb ha
      · have hla : lab e.1 ∈ L := (h.2.2 _).mpr ⟨⟨_, hve.1, rfl⟩, ha⟩
        by_cases hb : lab e.2.1 = lab r
        · exact one _ _ (Or.inl ⟨rfl, rfl⟩) hla hb
        · have hlb : lab e.2.1 ∈ L := (h.2.2 _).mpr ⟨⟨_, hve.2, rfl⟩, hb⟩
          obtain ⟨L2, hp, hn, hm⟩ := pd_two (A := fun _ _ => 0) hla hlb hne h.2.1
          have ih := matrix_tree hr es (e :: T) (mrg (lab e.1) (lab e.2.1) lab) (lab e.2.1 :: L2) hv' (h.step hr hve.1 hve.2 hne (Or.inl ⟨rfl, rfl⟩) ha hn hm)
          rw [hp, hp, ← ih]
          have hn1 := List.nodup_cons.mp hn
          have hn2 := List.nodup_cons.mp hn1.2
          have hxL2 : lab e.1 ∉ L2 := fun q => hn1.1 (List.mem_cons_of_mem _ q)
          refine Eq.trans ?_ (pd_wire (A := LA lab es) (B := LA (mrg (lab e.1) (lab e.2.1) lab) es) (e.2.2 : Int) hne hxL2 hn2.1 (fun k hk l hl => LA_mrg hne es k l (fun q => hn1.1 (q ▸ hk)) (fun q => hn1.1 (q ▸ hl))))
          exact pd_congr (fun k _ l _ => rfl)
/-- the same as a sum over sets of wires -/
def dl (g : Nat → Ed) : Nat → List Ed
  | 0 => []
  | k + 1 => g k :: dl g k
theorem treeS_sum {V : List Nat} {r : Nat} {g : Nat → Ed} : ∀ (m : Nat) (T : List Ed), Ac T → treeS V r (dl g m) T = sumS g m (fun S => iC (Ac (S.reverse ++ T) ∧ ∀ v ∈ V, Cn (S.reverse ++ T) v r) (wt S) 0)
  | 0, T, ha => by
    show iC _ 1 0 = iC _ 1 0
    exact iC_congr ⟨fun h => ⟨ha, h⟩, fun h => h.2⟩
  | k + 1, T, ha => by
    show treeS V r (dl g k) T + iC (Cn T (g k).1 (g k).2.1) 0 ((g k).2.2 * treeS V r (dl g k) (g k :: T)) = sumS g k _ + sumS g k _
    rw [treeS_sum k T ha]
    congr 1
    by_cases hc : Cn T (g k).1 (g k).2.1
    · rw [iC_pos hc, sumS_congr k _ (fun _ => 0) (fun S _ => ?_), sumS_zero]
      refine iC_neg (fun h => ?_)
      rw [List.reverse_cons, List.append_assoc] at h
      exact (Ac.drop S.reverse h.1).1 hc
    · rw [iC_neg hc, treeS_sum k (g k :: T) ⟨hc, ha⟩, ← sumS_mul]
      refine sumS_congr k _ _ (fun S _ => ?_)
      have e1 : (g k :: S).reverse ++ T = S.reverse ++ g k :: T := by simp
      show _ = iC (Ac ((g k :: S).reverse ++ T) ∧ ∀ v ∈ V, Cn ((g k :: S).reverse ++ T) v r) (wt (g k :: S)) 0
      rw [e1]
      by_cases h : Ac (S.reverse ++ g k :: T) ∧ ∀ v ∈ V, Cn (S.reverse ++ g k :: T) v r
      · rw [iC_pos h, iC_pos h]; rfl
      · rw [iC_neg h, iC_neg h, Nat.mul_zero]
/-- the trees: no ring, and one wire less than nodes -/
theorem trees_sum {V : List Nat} {r : Nat} {g : Nat → Ed} {m : Nat} (hV : V.Nodup) (hr : r ∈ V) (hg : ∀ i, i < m → (g i).1 ∈ V ∧ (g i).2.1 ∈ V) : treeS V r (dl g m) [] = sumS g m (fun S => iC (Ac S ∧ S.length + 1 = V.length) (wt S) 0) := by
  rw [treeS_sum m [] trivial]
  refine sumS_congr m _ _ (fun S hS => iC_congr ?_)
  rw [List.append_nil, Ac_reverse]
  have hv : ∀ e ∈ S, e.1 ∈ V ∧ e.2.1 ∈ V := fun e he => by
    obtain ⟨i, hi, rfl⟩ := hS.2 e he
    exact hg i hi
  constructor
  · rintro ⟨h1, h2⟩
    refine ⟨h1, ?_⟩
    have h3 := ((just_rooted (Q := [r]) h1 (by simp) hV (by simpa using hr) hv).mpr ⟨fun x hx y hy _ => by simp at hx hy; rw [hx, hy], fun v hv => ⟨r, by simp, Cn_reverse.mp (h2 v hv)⟩⟩).2
    simp at h3
    omega
  · rintro ⟨h1, h2⟩
    refine ⟨h1, fun v hv' => ?_⟩
    obtain ⟨q, hq, hc⟩ := all_rooted (Q := [r]) h1 (by simp) (by simpa using hr) (fun x hx y hy _ => by simp at hx hy; rw [hx, hy]) hv (by simp; omega) v hv'
    simp at hq
    subst hq
    exact Cn_reverse.mpr hc
