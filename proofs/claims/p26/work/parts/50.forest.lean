/-! FORESTS: what is joined by a list of wires; lists that make no ring; how many they are at most and at least. -/
abbrev Ed : Type := Nat × Nat × Nat
/-- joined by the wires of S: in every equivalence that holds them -/
def Cn (S : List Ed) (i j : Nat) : Prop := ∀ R : Nat → Nat → Prop, (∀ x, R x x) → (∀ x y, R x y → R y x) → (∀ x y z, R x y → R y z → R x z) → (∀ e ∈ S, R e.1 e.2.1) → R i j
theorem Cn.rfl' {S : List Ed} {i : Nat} : Cn S i i := fun _ h _ _ _ => h i
theorem Cn.symm {S : List Ed} {i j : Nat} (h : Cn S i j) : Cn S j i := fun R r s t e => s _ _ (h R r s t e)
theorem Cn.trans {S : List Ed} {i j k : Nat} (h : Cn S i j) (g : Cn S j k) : Cn S i k := fun R r s t e => t _ _ _ (h R r s t e) (g R r s t e)
theorem Cn.mono {S T : List Ed} {i j : Nat} (hs : ∀ e ∈ S, e ∈ T) (h : Cn S i j) : Cn T i j := fun R r s t e => h R r s t (fun x hx => e x (hs x hx))
theorem Cn.edge {S : List Ed} {e : Ed} (he : e ∈ S) : Cn S e.1 e.2.1 := fun _ _ _ _ g => g e he
theorem Cn_nil {i j : Nat} : Cn [] i j ↔ i = j := ⟨fun h => h (fun x y => x = y) (fun _ => rfl) (fun _ _ h => h.symm) (fun _ _ _ h g => h.trans g) (fun e he => nomatch he), fun h => h ▸ Cn.rfl'⟩
theorem Cn_cons {e : Ed} {S : List Ed} {i j : Nat} : Cn (e :: S) i j ↔ Cn S i j ∨ (Cn S i e.1 ∧ Cn S e.2.1 j) ∨ (Cn S i e.2.1 ∧ Cn S e.1 j) := by
  have hm : ∀ x ∈ S, x ∈ e :: S := fun x hx => List.mem_cons_of_mem _ hx
  have he : Cn (e :: S) e.1 e.2.1 := Cn.edge List.mem_cons_self
  constructor
  · intro h
    refine h (fun x y => Cn S x y ∨ (Cn S x e.1 ∧ Cn S e.2.1 y) ∨ (Cn S x e.2.1 ∧ Cn S e.1 y)) (fun x => Or.inl Cn.rfl') ?_ ?_ ?_
    · intro x y h
      rcases h with h | ⟨h, g⟩ | ⟨h, g⟩
      · exact Or.inl h.symm
      · exact Or.inr (Or.inr ⟨g.symm, h.symm⟩)
      · exact Or.inr (Or.inl ⟨g.symm, h.symm⟩)
    · intro x y z h k
      rcases h with h | ⟨h, g⟩ | ⟨h, g⟩ <;> rcases k with k | ⟨k, m⟩ | ⟨k, m⟩
      · exact Or.inl (h.trans k)
      · exact Or.inr (Or.inl ⟨h.trans k, m⟩)
      · exact Or.inr (Or.inr ⟨h.trans k, m⟩)
      · exact Or.inr (Or.inl ⟨h, g.trans k⟩)
      · exact Or.inr (Or.inl ⟨h, m⟩)
      · exact Or.inl (h.trans m)
      · exact Or.inr (Or.inr ⟨h, g.trans k⟩)
      · exact Or.inl (h.trans m)
      · exact Or.inr (Or.inr ⟨h, m⟩)
    · intro x hx
      rcases List.mem_cons.mp hx with rfl | hx
      · exact Or.inr (Or.inl ⟨Cn.rfl', Cn.rfl'⟩)
      · exact Or.inl (Cn.edge hx)
  · intro h
    rcases h with h | ⟨h, g⟩ | ⟨h, g⟩
    · exact h.mono hm
    · exact (h.mono hm).trans (he.trans (g.mono hm))
    · exact (h.mono hm).trans (he.symm.trans (g.mono hm))
/-- no ring, the wires taken from the list's end on -/
def Ac : List Ed → Prop
  | [] => True
  | e :: S => ¬ Cn S e.1 e.2.1 ∧ Ac S
/-- no wire's ends are joined without it -/
def Br (S : List Ed) : Prop := ∀ (P : List Ed) (e : Ed) (Q : List Ed), S = P ++ e :: Q → ¬ Cn (P ++ Q) e.1 e.2.1
theorem Ac.br : ∀ {S : List Ed}, Ac S → Br S
  | [], _ => fun P e Q h => by simp at h
  | f :: S, h => by
    intro P e Q hS hc
    cases P with
    | nil =>
      simp only [List.nil_append, List.cons.injEq] at hS
      obtain ⟨rfl, rfl⟩ := hS
      exact h.1 hc
    | cons g P =>
      simp only [List.cons_append, List.cons.injEq] at hS
      obtain ⟨rfl, rfl⟩ := hS
      have hb := Ac.br h.2 P e Q rfl
      have hm : ∀ x ∈ P ++ Q, x ∈ P ++ e :: Q := fun x hx => by
        rcases List.mem_append.mp hx with h | h
        · exact List.mem_append_left _ h
        · exact List.mem_append_right _ (List.mem_cons_of_mem _ h)
      have he : Cn (P ++ e :: Q) e.1 e.2.1 := Cn.edge (List.mem_append_right _ List.mem_cons_self)
      rcases Cn_cons.mp hc with h1 | ⟨h1, h2⟩ | ⟨h1, h2⟩
      · exact hb h1
      · exact h.1 ((h1.mono hm).symm.trans (he.trans (h2.mono hm).symm))
      · exact h.1 ((h2.mono hm).trans (he.symm.trans (h1.mono hm)))
theorem Br.ac : ∀ {S : List Ed}, Br S → Ac S
  | [], _ => trivial
  | f :: S, h => by
    refine ⟨h [] f S rfl, Br.ac (fun P e Q hS hc => h (f :: P) e Q (by rw [hS]; rfl) (hc.mono fun x hx => ?_))⟩
    exact List.mem_cons_of_mem _ hx
theorem Br.reverse {S : List Ed} (h : Br S) : Br S.reverse := by
  intro P e Q hS hc
  have h1 : S = Q.reverse ++ e :: P.reverse := by
    have := congrArg List.reverse hS
    rw [List.reverse_reverse] at this
    rw [this, List.reverse_append, List.reverse_cons, List.append_assoc]
    rfl
  refine h _ e _ h1 (hc.mono fun x hx => ?_)
  rcases List.mem_append.mp hx with h | h
  · exact List.mem_append_right _ (List.mem_reverse.mpr h)
  · exact List.mem_append_left _ (List.mem_reverse.mpr h)
theorem Ac_reverse {S : List Ed} : Ac S.reverse ↔ Ac S :=
  ⟨fun h => by have := h.br.reverse.ac; rwa [List.reverse_reverse] at this, fun h => h.br.reverse.ac⟩
theorem Cn_reverse {S : List Ed} {i j : Nat} : Cn S.reverse i j ↔ Cn S i j := ⟨fun h => h.mono (fun _ hx => List.mem_reverse.mp hx), fun h => h.mono (fun _ hx => List.mem_reverse.mpr hx)⟩
/-- a list without doubles is no longer than one that has all of it -/
theorem nd_len : ∀ (Q V : List Nat), Q.Nodup → (∀ x ∈ Q, x ∈ V) → Q.length ≤ V.length
  | [], _, _, _ => Nat.zero_le _
  | x :: Q, V, hn, hs => by
    have hx : x ∈ V := hs x List.mem_cons_self
    have hn' := List.nodup_cons.mp hn
    have h1 := nd_len Q (V.erase x) hn'.2 (fun y hy => by
      have hne : y ≠ x := fun h => hn'.1 (h ▸ hy)
      exact (List.mem_erase_of_ne hne).mpr (hs y (List.mem_cons_of_mem _ hy)))
    have h2 := List.length_erase_of_mem hx
    have h3 : 0 < V.length := List.length_pos_of_mem hx
    simp only [List.length_cons]
    omega
/-- no two of Q are joined -/
def PD (S : List Ed) (Q : List Nat) : Prop := ∀ x ∈ Q, ∀ y ∈ Q, Cn S x y → x = y
theorem PD.mono {S T : List Ed} {Q : List Nat} (hs : ∀ e ∈ S, e ∈ T) (h : PD T Q) : PD S Q := fun x hx y hy hc => h x hx y hy (hc.mono hs)
/-- at most so many wires -/
theorem ac_le : ∀ (S : List Ed) (Q V : List Nat), Ac S → Q.Nodup → (∀ x ∈ Q, x ∈ V) → PD S Q → (∀ e ∈ S, e.1 ∈ V ∧ e.2.1 ∈ V) → Q.length + S.length ≤ V.length
  | [], Q, V, _, hn, hs, _, _ => nd_len Q V hn hs
  | e :: S, Q, V, ha, hn, hs, hp, hv => by
    have hm : ∀ x ∈ S, x ∈ e :: S := fun x hx => List.mem_cons_of_mem _ hx
    have hpS : PD S Q := hp.mono hm
    have hvS : ∀ x ∈ S, x.1 ∈ V ∧ x.2.1 ∈ V := fun x hx => hv x (hm x hx)
    have he := hv e List.mem_cons_self
    have key : ∀ c : Nat, c ∈ V → (∀ q ∈ Q, ¬ Cn S q c) → Q.length + (e :: S).length ≤ V.length := fun c hc hq => by
      have h1 := ac_le S (c :: Q) V ha.2 (List.nodup_cons.mpr ⟨fun h => hq c h Cn.rfl', hn⟩) (fun x hx => (List.mem_cons.mp hx).elim (fun h => h ▸ hc) (hs x))
        (fun x hx y hy hxy => by
          rcases List.mem_cons.mp hx with rfl | ux <;> rcases List.mem_cons.mp hy with rfl | uy
          · rfl
          · exact absurd hxy.symm (hq y uy)
          · exact absurd hxy (hq x ux)
          · exact hpS x ux y uy hxy) hvS
      simp only [List.length_cons] at h1 ⊢
      omega
    by_cases hq : ∃ q ∈ Q, Cn S q e.1
    · obtain ⟨q, hq, hc⟩ := hq
      refine key e.2.1 he.2 (fun r hr hrb => ?_)
      have hqr : q = r := hp q hq r hr (Cn_cons.mpr (Or.inr (Or.inl ⟨hc, hrb.symm⟩)))
      subst hqr
      exact ha.1 (hc.symm.trans hrb)
    · exact key e.1 he.1 (fun r hr hra => hq ⟨r, hr, hra⟩)
/-- at least so many -/
theorem sp_le : ∀ (S : List Ed) (Q V : List Nat), V.Nodup → (∀ v ∈ V, ∃ q ∈ Q, Cn S v q) → V.length ≤ Q.length + S.length
  | [], Q, V, hn, h => nd_len V Q hn (fun v hv => by obtain ⟨q, hq, hc⟩ := h v hv; exact (Cn_nil.mp hc) ▸ hq)
  | e :: S, Q, V, hn, h => by
    have key : ∀ c : Nat, (∀ v ∈ V, ∃ q ∈ c :: Q, Cn S v q) → V.length ≤ Q.length + (e :: S).length := fun c hc => by
      have h1 := sp_le S (c :: Q) V hn hc
      simp only [List.length_cons] at h1 ⊢
      omega
    by_cases hq : ∃ q ∈ Q, Cn S e.1 q
    · obtain ⟨q0, hq0, hc0⟩ := hq
      refine key e.2.1 (fun v hv => ?_)
      obtain ⟨q, hq, hc⟩ := h v hv
      rcases Cn_cons.mp hc with h1 | ⟨h1, h2⟩ | ⟨h1, h2⟩
      · exact ⟨q, List.mem_cons_of_mem _ hq, h1⟩
      · exact ⟨q0, List.mem_cons_of_mem _ hq0, h1.trans hc0⟩
      · exact ⟨e.2.1, List.mem_cons_self, h1⟩
    · refine key e.1 (fun v hv => ?_)
      obtain ⟨q, hq', hc⟩ := h v hv
      rcases Cn_cons.mp hc with h1 | ⟨h1, h2⟩ | ⟨h1, h2⟩
      · exact ⟨q, List.mem_cons_of_mem _ hq', h1⟩
      · exact ⟨e.1, List.mem_cons_self, h1⟩
      · exact absurd ⟨q, hq', h2⟩ hq
/-- with just so many wires each node is joined with a root -/
theorem all_rooted {S : List Ed} {Q V : List Nat} (ha : Ac S) (hn : Q.Nodup) (hs : ∀ x ∈ Q, x ∈ V) (hp : PD S Q) (hv : ∀ e ∈ S, e.1 ∈ V ∧ e.2.1 ∈ V) (hl : V.length = Q.length + S.length) : ∀ v ∈ V, ∃ q ∈ Q, Cn S v q := by
  intro v hv'
  refine Classical.byContradiction fun hno => ?_
  have hno : ∀ q ∈ Q, ¬ Cn S v q := fun q hq hc => hno ⟨q, hq, hc⟩
  have h1 := ac_le S (v :: Q) V ha (List.nodup_cons.mpr ⟨fun h => hno v h Cn.rfl', hn⟩) (fun x hx => (List.mem_cons.mp hx).elim (fun h => h ▸ hv') (hs x)) (fun x hx y hy hxy => by
    rcases List.mem_cons.mp hx with rfl | ux <;> rcases List.mem_cons.mp hy with rfl | uy
    · rfl
    · exact absurd hxy (hno y uy)
    · exact absurd hxy.symm (hno x ux)
    · exact hp x ux y uy hxy) hv
  simp only [List.length_cons] at h1
  omega
theorem just_rooted {S : List Ed} {Q V : List Nat} (ha : Ac S) (hnQ : Q.Nodup) (hnV : V.Nodup) (hs : ∀ x ∈ Q, x ∈ V) (hv : ∀ e ∈ S, e.1 ∈ V ∧ e.2.1 ∈ V) : (PD S Q ∧ V.length = Q.length + S.length) ↔ (PD S Q ∧ ∀ v ∈ V, ∃ q ∈ Q, Cn S v q) :=
  ⟨fun h => ⟨h.1, all_rooted ha hnQ hs h.1 hv h.2⟩, fun h => ⟨h.1, Nat.le_antisymm (sp_le S Q V hnV h.2) (ac_le S Q V ha hnQ hs h.1 hv)⟩⟩
/-- where two are joined, a wire goes between: without it they are apart -/
theorem cut_wire : ∀ (S : List Ed) (i j : Nat), Ac S → Cn S i j → i ≠ j → ∃ (P : List Ed) (e : Ed) (Q : List Ed), S = P ++ e :: Q ∧ ¬ Cn (P ++ Q) i j
  | [], i, j, _, h, hne => absurd (Cn_nil.mp h) hne
  | f :: S, i, j, ha, h, hne => by
    by_cases hS : Cn S i j
    · obtain ⟨P, e, Q, rfl, hn⟩ := cut_wire S i j ha.2 hS hne
      refine ⟨f :: P, e, Q, rfl, fun hc => ?_⟩
      have hm : ∀ x ∈ P ++ Q, x ∈ P ++ e :: Q := fun x hx => by
        rcases List.mem_append.mp hx with h | h
        · exact List.mem_append_left _ h
        · exact List.mem_append_right _ (List.mem_cons_of_mem _ h)
      rcases Cn_cons.mp hc with h1 | ⟨h1, h2⟩ | ⟨h1, h2⟩
      · exact hn h1
      · exact ha.1 ((h1.mono hm).symm.trans (hS.trans (h2.mono hm).symm))
      · exact ha.1 ((h2.mono hm).trans (hS.symm.trans (h1.mono hm)))
    · exact ⟨[], f, S, rfl, hS⟩
theorem Ac.cut {P Q : List Ed} {e : Ed} (h : Ac (P ++ e :: Q)) : Ac (P ++ Q) := by
  refine Br.ac (fun A f B hS hc => ?_)
  have hb := h.br
  -- f lies in P or in Q
  rcases List.append_eq_append_iff.mp hS with ⟨C, rfl, hC⟩ | ⟨C, rfl, hC⟩
  · refine hb (P ++ e :: C) f B (by rw [hC]; simp) (hc.mono fun x hx => ?_)
    rcases List.mem_append.mp hx with h | h
    · rcases List.mem_append.mp h with h | h
      · exact List.mem_append_left _ (List.mem_append_left _ h)
      · exact List.mem_append_left _ (List.mem_append_right _ (List.mem_cons_of_mem _ h))
    · exact List.mem_append_right _ h
  · cases C with
    | nil =>
      simp only [List.nil_append] at hC
      refine hb (A ++ [e]) f B (by rw [← hC]; simp) (hc.mono fun x hx => ?_)
      rcases List.mem_append.mp hx with h | h
      · exact List.mem_append_left _ (List.mem_append_left _ h)
      · exact List.mem_append_right _ h
    | cons g C =>
      simp only [List.cons_append, List.cons.injEq] at hC
      obtain ⟨rfl, rfl⟩ := hC
      refine hb A f (C ++ e :: Q) (by simp) (hc.mono fun x hx => ?_)
      rcases List.mem_append.mp hx with h | h
      · exact List.mem_append_left _ h
      · rcases List.mem_append.mp h with h | h
        · exact List.mem_append_right _ (List.mem_append_left _ h)
        · exact List.mem_append_right _ (List.mem_append_right _ (List.mem_cons_of_mem _ h))
