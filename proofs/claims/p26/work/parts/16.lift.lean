/-! A CONTRACT OVER A WORLD IS ONE OVER A LARGER WORLD: what lies beside stays as it was. -/
theorem vP_iff {D : va_G} {cl : List vw_C} {ws : va_W} {H : Heap} : va_P D cl ws H ↔ ∀ q ∈ ws, va_at D cl q H :=
  ⟨fun h q hq => by obtain ⟨k, hk⟩ := List.getElem?_of_mem hq; exact h k q hk, fun h k q hk => h q (List.mem_of_getElem? hk)⟩
theorem WF.mid {ωS ωB : Type} {wsS : ωS → va_W} {adS : List Nat} {wsB : ωB → va_W} {adB : List Nat} {σ : ωS} {τ : ωB} {Lw Rw : va_W} (hS : WF wsS adS) (hB : WF wsB adB) (e1 : wsB τ = Lw ++ (wsS σ ++ Rw)) : (∀ q ∈ adS, q ∈ adB) ∧ (∀ x ∈ Lw, x.1 ∉ adS) ∧ ∀ x ∈ Rw, x.1 ∉ adS := by
  have h := hB.2 τ
  rw [e1, List.map_append, List.map_append, hS.2 σ] at h
  have hn := hB.1
  rw [← h] at hn
  refine ⟨fun q hq => by rw [← h]; exact List.mem_append_right _ (List.mem_append_left _ hq), fun x hx hq => ?_, fun x hx hq => ?_⟩
  · exact (List.nodup_append.mp hn).2.2 x.1 (List.mem_map_of_mem hx) x.1 (List.mem_append_left _ hq) rfl
  · exact (List.nodup_append.mp (List.nodup_append.mp hn).2.1).2.2 x.1 hq x.1 (List.mem_map_of_mem hx) rfl
theorem lift_pre {ωS ωB : Type} {D : va_G} {cy : Nat → ClassId} {wsS : ωS → va_W} {adS : List Nat} {wsB : ωB → va_W} {adB : List Nat} {σ : ωS} {τ : ωB} {Lw Rw : va_W} {sz : Nat} {U : State} (e1 : wsB τ = Lw ++ (wsS σ ++ Rw)) (hsub : ∀ q ∈ adS, q ∈ adB) (h : Pre D cy wsB adB τ sz U) : Pre D cy wsS adS σ sz U := by
  obtain ⟨h1, h2, h3⟩ := h
  refine ⟨h1, ?_, h3.narrow (fun q hq => hq.elim (fun z => Or.inl (hsub q z)) Or.inr)⟩
  rw [e1, vP_iff] at h2
  rw [vP_iff]
  exact fun q hq => h2 q (List.mem_append_right _ (List.mem_append_left _ hq))
theorem lift_post {ωS ωB : Type} {D : va_G} {cy : Nat → ClassId} {wsS : ωS → va_W} {adS : List Nat} {wsB : ωB → va_W} {adB : List Nat} {σ σ' : ωS} {τ τ' : ωB} {Lw Rw : va_W} {sz : Nat} {st t : State} (e1 : wsB τ = Lw ++ (wsS σ ++ Rw)) (e2 : wsB τ' = Lw ++ (wsS σ' ++ Rw)) (hS : WF wsS adS) (hB : WF wsB adB) (hp : Pre D cy wsB adB τ sz st) (h1 : va_P D vwCl (wsS σ') t.heap) (h2 : va_F (wA adS sz) st t) : va_P D vwCl (wsB τ') t.heap ∧ va_F (wA adB sz) st t := by
  obtain ⟨hsub, hl, hr⟩ := WF.mid hS hB e1
  obtain ⟨hsz, hP, -⟩ := hp
  have hk : ∀ x : Nat × va_E, x ∈ Lw ∨ x ∈ Rw → va_at D vwCl x t.heap := fun x hx => by
    rw [e1, vP_iff] at hP
    have ha : va_at D vwCl x st.heap := hP x (hx.elim (fun z => List.mem_append_left _ z) (fun z => List.mem_append_right _ (List.mem_append_right _ z)))
    refine ha.kept (h2.2 x.1 ha.lt ?_)
    intro z
    rcases z with z | z
    · exact hx.elim (fun y => hl x y z) (fun y => hr x y z)
    · have := ha.lt; omega
  refine ⟨?_, h2.1, fun q a b => h2.2 q a (fun z => b (z.elim (fun y => Or.inl (hsub q y)) Or.inr))⟩
  rw [e2, vP_iff]
  intro x hx
  rcases List.mem_append.mp hx with z | z
  · exact hk x (Or.inl z)
  · rcases List.mem_append.mp z with z | z
    · exact vP_iff.mp h1 x z
    · exact hk x (Or.inr z)
theorem Con.lift {ωS ωB : Type} {l : Launch} {D : va_G} {cy : Nat → ClassId} {wsS : ωS → va_W} {adS : List Nat} {wsB : ωB → va_W} {adB : List Nat} {y : MethodName} {wy : List Cond} {rm : Room} {mc ms : Nat} {av : List Value} {v : Option Value} {σ σ' : ωS} {τ τ' : ωB} (Lw Rw : va_W) (h : Con l D cy wsS adS y wy rm mc ms av v σ σ') (e1 : wsB τ = Lw ++ (wsS σ ++ Rw)) (e2 : wsB τ' = Lw ++ (wsS σ' ++ Rw)) (hS : WF wsS adS) (hB : WF wsB adB) : Con l D cy wsB adB y wy rm mc ms av v τ τ' := by
  intro sz
  obtain ⟨hsub, hl, hr⟩ := WF.mid hS hB e1
  refine MetFree.mono (h sz) (fun a U hp => ⟨hp.1, lift_pre e1 hsub hp.2⟩) (fun _ _ _ _ _ q => q) ?_
  intro a st o t hp hq
  obtain ⟨⟨⟨ho, hP⟩, hF⟩, L, hE, hL⟩ := hq
  obtain ⟨k1, k2⟩ := lift_post e1 e2 hS hB hp.2 hP hF
  exact ⟨⟨⟨ho, k1⟩, k2⟩, L, hE, fun q hq => (hL q hq).elim (fun z => Or.inl (hsub _ z)) Or.inr⟩
theorem ConX.lift {ωS ωB : Type} {l : Launch} {D : va_G} {cy : Nat → ClassId} {wsS : ωS → va_W} {adS : List Nat} {wsB : ωB → va_W} {adB : List Nat} {y : MethodName} {wy : List Cond} {rm : Room} {mc ms : Nat} {av : List Value} {o : Nat ⊕ Option Value} {σ σ' : ωS} {τ τ' : ωB} (Lw Rw : va_W) (h : ConX l D cy wsS adS y wy rm mc ms av o σ σ') (e1 : wsB τ = Lw ++ (wsS σ ++ Rw)) (e2 : wsB τ' = Lw ++ (wsS σ' ++ Rw)) (hS : WF wsS adS) (hB : WF wsB adB) : ConX l D cy wsB adB y wy rm mc ms av o τ τ' := by
  intro sz
  obtain ⟨hsub, hl, hr⟩ := WF.mid hS hB e1
  refine MetFree.mono (h sz) (fun a U hp => ⟨hp.1, lift_pre e1 hsub hp.2⟩) (fun _ _ _ _ _ q => q) ?_
  intro a st oc t hp hq
  rcases hq with ⟨⟨v, ho, ⟨hv, hP⟩, hF⟩, L, hE, hL⟩ | ⟨q, hq, E0, ce, L, ⟨⟨ho, hP⟩, hF⟩, x1, x2, x3, x4, x5, hL⟩
  · obtain ⟨k1, k2⟩ := lift_post e1 e2 hS hB hp.2 hP hF
    exact Or.inl ⟨⟨v, ho, ⟨hv, k1⟩, k2⟩, L, hE, fun q hq => (hL q hq).elim (fun z => Or.inl (hsub _ z)) Or.inr⟩
  · obtain ⟨k1, k2⟩ := lift_post e1 e2 hS hB hp.2 hP hF
    exact Or.inr ⟨q, hq, E0, ce, L, ⟨⟨ho, k1⟩, k2⟩, x1, x2, x3, x4, x5, fun z hz => (hL z hz).elim (fun y => Or.inl (hsub _ y)) Or.inr⟩
