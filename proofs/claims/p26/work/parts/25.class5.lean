section TR
variable {p : Program} {l : Launch} {e : Env} {s : State} {m : MethodId} {args : Array Value} {below : List Frame} {meth : Method} {c : Code} {D : va_G} {cy : Nat → ClassId} {h : Nat → Nat}

abbrev rm_X7_rest : Room := { frames := 16, cells := 0, slots := 0, locals := 399 }
noncomputable def f_X7_rest (N : Nat) (σ : Wd) : Option (Int64 × Wd) :=
  bS (f_X7_countRest N σ) fun v1 s2 =>
  some (v1, s2)
set_option maxHeartbeats 4000000 in
set_option maxRecDepth 100000 in
theorem c_X7_rest {l : Launch} {D : va_G} {cy : Nat → ClassId} {h : Nat → Nat} {N : Nat} {σ : Wd} {r : Int64} {σ1 : Wd} (hW : WF (wsC cy h) (adC h)) (hr : f_X7_rest N σ = some (r, σ1)) : Con l D cy (wsC cy h) (adC h) yX7_rest wsX7_rest rm_X7_rest 0 0 [.ref (h 0)] (some (.long r)) σ σ1 := by
  refine Con.of (ρ := Int64 × Wd) (lv0 := [(0, .ref (h 0))]) (σ := σ) (fun r : Int64 × Wd => some (.long r.1)) (fun r => r.2) (by decide) rfl rfl (Nat.le_of_ble_eq_true rfl) rfl hW hr (fun p e s m args below meth c E => ?_)
  unfold f_X7_rest
  refine G.aload_n E dX7_rest_0 0 rfl rfl ?_
  refine G.callVls (n := 0) (T := TX7) (N := 7) (C := RX7) (a := h 0) (q0 := 0) (As := []) E dX7_rest_1 (fun _ _ hv => c_X7_countRest E.wf hv) gX7_rest_X7_countRest rfl rfl rfl (by decide +kernel) ⟨Nat.le_of_ble_eq_true rfl, Nat.le_of_ble_eq_true rfl⟩ (wsC_at0 _ _ _) rfl rfl (Nat.le_of_ble_eq_true rfl) ⟨Nat.le_of_ble_eq_true rfl, Nat.le_of_ble_eq_true rfl⟩ (fun v1 s2 => ?_)
  exact G.lret E dX7_rest_4 rfl rfl
set_option maxHeartbeats 4000000 in
set_option maxRecDepth 100000 in
theorem iw_X7_setValue_7 : ∀ w ∈ u_ws RX7 TX7 7, w ∈ wsX7_setValue := fun _ h => List.mem_cons_of_mem _ (List.mem_append_right _ h)
abbrev rm_X7_setValue : Room := { frames := 0, cells := 0, slots := 0, locals := 0 }
noncomputable def f_X7_setValue (N : Nat) (σ : Wd) (a0 : Int32) (a1 : Int32) : Option (Wd) :=
  if a0 < 0 then (
    some σ)
  else (
    if 7 ≤ a0 then (
      some σ)
    else (
      aI σ 57 7 a0 a1 fun s1 =>
      some s1))
set_option maxHeartbeats 4000000 in
set_option maxRecDepth 100000 in
theorem c_X7_setValue {l : Launch} {D : va_G} {cy : Nat → ClassId} {h : Nat → Nat} {N : Nat} {σ : Wd} {a0 : Int32} {a1 : Int32} {σ1 : Wd} (hW : WF (wsC cy h) (adC h)) (hr : f_X7_setValue N σ a0 a1 = some σ1) : Con l D cy (wsC cy h) (adC h) yX7_setValue wsX7_setValue rm_X7_setValue 0 0 [.ref (h 0), .int a0, .int a1] (none) σ σ1 := by
  refine Con.of (ρ := Wd) (lv0 := [(0, .ref (h 0)), (1, .int a0), (2, .int a1)]) (σ := σ) (fun _ : Wd => none) (fun r => r) (by decide) rfl rfl (Nat.le_of_ble_eq_true rfl) rfl hW hr (fun p e s m args below meth c E => ?_)
  unfold f_X7_setValue
  refine G.iload_n E dX7_setValue_0 1 rfl rfl ?_
  refine G.if_lt (tgt := 20) E dX7_setValue_1 (by decide) ?_ ?_
  · exact G.vret E dX7_setValue_20 rfl rfl
  · refine G.iload_n E dX7_setValue_4 1 rfl rfl ?_
    refine G.aload_n E dX7_setValue_5 0 rfl rfl ?_
    refine G.getR (T := TX7) (N := 7) (C := RX7) (q0 := 0) (i := 6) E dX7_setValue_6 iw_X7_setValue_7 (wsC_at0 _ _ _) rfl (by decide) rfl (List.mem_of_getElem? (i := 1) rfl) ?_
    refine G.alen (q0 := 57) (t0 := 0) (v := 7) E dX7_setValue_9 (wsC_at57 _ _ _) rfl rfl ?_
    refine G.icmp_ge (tgt := 20) E dX7_setValue_10 (by decide) ?_ ?_
    · exact G.vret E dX7_setValue_20 rfl rfl
    · refine G.aload_n E dX7_setValue_13 0 rfl rfl ?_
      refine G.getR (T := TX7) (N := 7) (C := RX7) (q0 := 0) (i := 6) E dX7_setValue_14 iw_X7_setValue_7 (wsC_at0 _ _ _) rfl (by decide) rfl (List.mem_of_getElem? (i := 1) rfl) ?_
      refine G.iload_n E dX7_setValue_17 1 rfl rfl ?_
      refine G.iload_n E dX7_setValue_18 2 rfl rfl ?_
      refine G.iast (q0 := 57) E dX7_setValue_19 (wsC_at57 _ _ _) (fun j => wsC_set57 _ _ _ _ j) (fun s1 => ?_)
      exact G.vret E dX7_setValue_20 rfl rfl
set_option maxHeartbeats 4000000 in
set_option maxRecDepth 100000 in
theorem iw_X7_simplify_7 : ∀ w ∈ u_ws RX7 TX7 7, w ∈ wsX7_simplify := fun _ h => List.mem_cons_of_mem _ (List.mem_append_left _ (List.mem_append_left _ (List.mem_append_left _ (List.mem_append_right _ h))))
abbrev rm_X7_simplify : Room := { frames := 7, cells := 0, slots := 0, locals := 166 }
noncomputable def fl_X7_simplify_2 {ρ : Type} (N : Nat) (K : Int32 → Wd → Option ρ) : Nat → Int32 → Wd → Option ρ
  | 0, _, _ => none
  | n + 1, x1, s0 =>
    if 20 ≤ x1 then (
      K x1 s0)
    else (
      bS (f_X3_doFirstSimple N s0) fun v1 s2 =>
      if v1 = 0 then (
        K x1 s2)
      else (
        fl_X7_simplify_2 N K n (x1 + 1) s2))
set_option maxHeartbeats 4000000 in
set_option maxRecDepth 100000 in
theorem gl_X7_simplify_2 {ρ : Type} {Q : ρ → State → Prop} {N : Nat} {K : Int32 → Wd → Option ρ} (E : EV p s m args meth c cX7_simplify 2 RX7 wsX7_simplify (some .int) D cy (wsC cy h) (adC h)) (hK : ∀ (x1' : Int32) (s' : Wd), G p l e (headSpec wsX7_simplify rm_X7_simplify).room s m args below meth c 2 0 0 D (wsC cy h) (adC h) Q 24 [(1, .int (x1'))] [] s' (K x1' s')) :
  ∀ (n : Nat) (x1 : Int32) (s0 : Wd), G p l e (headSpec wsX7_simplify rm_X7_simplify).room s m args below meth c 2 0 0 D (wsC cy h) (adC h) Q 2 [(0, .ref (h 0)), (1, .int x1)] [] s0 (fl_X7_simplify_2 N K n x1 s0) := by
  intro n
  induction n with
  | zero => intros; exact G.no
  | succ n ih =>
    intro x1 s0
    rw [fl_X7_simplify_2]
    refine G.iload_n E dX7_simplify_2 1 rfl rfl ?_
    refine G.bipush (v := 20) E dX7_simplify_3 (by decide) ?_
    refine G.icmp_ge (tgt := 24) E dX7_simplify_5 (by decide) ?_ ?_
    · refine G.loc [1] rfl ?_
      exact hK x1 s0
    · refine G.aload_n E dX7_simplify_8 0 rfl rfl ?_
      refine G.getR (T := TX7) (N := 7) (C := RX7) (q0 := 0) (i := 4) E dX7_simplify_9 iw_X7_simplify_7 (wsC_at0 _ _ _) rfl (by decide) rfl (List.mem_of_getElem? (i := 1) rfl) ?_
      refine G.callVis (n := 0) (T := TX3) (N := 10) (C := RX3) (a := h 28) (q0 := 28) (As := []) E dX7_simplify_12 (fun _ _ hv => c_X3_doFirstSimple E.wf hv) gX7_simplify_X3_doFirstSimple rfl rfl rfl (by decide +kernel) ⟨Nat.le_of_ble_eq_true rfl, Nat.le_of_ble_eq_true rfl⟩ (wsC_at28 _ _ _) rfl rfl (Nat.le_of_ble_eq_true rfl) ⟨Nat.le_of_ble_eq_true rfl, Nat.le_of_ble_eq_true rfl⟩ (fun v1 s2 => ?_)
      refine G.if_eq (tgt := 24) E dX7_simplify_15 (by decide) ?_ ?_
      · refine G.loc [1] rfl ?_
        exact hK x1 s2
      · refine G.iinc (v := x1 + 1) (lv' := [(1, .int (x1 + 1)), (0, .ref (h 0))]) E dX7_simplify_18 1 rfl rfl (by decide) rfl ?_
        refine G.goto (tgt := 2) E dX7_simplify_21 (by decide) ?_
        refine G.loc [1, 0] rfl ?_
        exact ih (x1 + 1) s2
noncomputable def f_X7_simplify (N : Nat) (σ : Wd) : Option (Int32 × Wd) :=
  fl_X7_simplify_2 N (fun v3 s4 =>
    some (v3, s4)) N 0 σ
set_option maxHeartbeats 4000000 in
set_option maxRecDepth 100000 in
theorem c_X7_simplify {l : Launch} {D : va_G} {cy : Nat → ClassId} {h : Nat → Nat} {N : Nat} {σ : Wd} {r : Int32} {σ1 : Wd} (hW : WF (wsC cy h) (adC h)) (hr : f_X7_simplify N σ = some (r, σ1)) : Con l D cy (wsC cy h) (adC h) yX7_simplify wsX7_simplify rm_X7_simplify 0 0 [.ref (h 0)] (some (.int r)) σ σ1 := by
  refine Con.of (ρ := Int32 × Wd) (lv0 := [(0, .ref (h 0))]) (σ := σ) (fun r : Int32 × Wd => some (.int r.1)) (fun r => r.2) (by decide) rfl rfl (Nat.le_of_ble_eq_true rfl) rfl hW hr (fun p e s m args below meth c E => ?_)
  unfold f_X7_simplify
  refine G.iconst (v := 0) E dX7_simplify_0 (by decide) ?_
  refine G.istore_n (lv' := [(1, .int 0), (0, .ref (h 0))]) E dX7_simplify_1 rfl (by decide) rfl ?_
  refine G.loc [1, 0] rfl ?_
  refine gl_X7_simplify_2 E (fun v3 s4 => ?_) N _ _
  refine G.iload_n E dX7_simplify_24 0 rfl rfl ?_
  exact G.iret E dX7_simplify_25 rfl rfl
set_option maxHeartbeats 4000000 in
set_option maxRecDepth 100000 in
theorem iw_X7_upperOfOppositeAnswer_7 : ∀ w ∈ u_ws RX7 TX7 7, w ∈ wsX7_upperOfOppositeAnswer := fun _ h => List.mem_cons_of_mem _ (List.mem_append_left _ (List.mem_append_left _ (List.mem_append_right _ h)))
abbrev rm_X7_upperOfOppositeAnswer : Room := { frames := 15, cells := 0, slots := 0, locals := 380 }
noncomputable def fl_X7_upperOfOppositeAnswer_4 (N : Nat) (σ : Wd) (x1 : Int32) (K : Unit → Option (Int64 × Wd)) : Nat → Int32 → Int32 → Option (Int64 × Wd)
  | 0, _, _ => none
  | n + 1, x2, x3 =>
    if 7 ≤ x3 then (
      K ())
    else (
      jn (fun (v1 : Int32) => ((
        fl_X7_upperOfOppositeAnswer_4 N σ x1 K n v1 (x3 + 1)) : Option (Int64 × Wd))) fun j40 =>
      if x3 = x1 then (
        j40 x2)
      else (
        bP (f_X4_hasEdge N σ x3) fun v2 =>
        if v2 = 0 then (
          j40 x2)
        else (
          if x2 = (-1) then (
            j40 x3)
          else (
            bS (f_X7_upperOfAnswer N σ x2 x3) fun v3 s4 =>
            some (v3, s4)))))
set_option maxHeartbeats 4000000 in
set_option maxRecDepth 100000 in
theorem gl_X7_upperOfOppositeAnswer_4 {N : Nat} {σ : Wd} {x1 : Int32} {K : Unit → Option (Int64 × Wd)} (E : EV p s m args meth c cX7_upperOfOppositeAnswer 4 RX7 wsX7_upperOfOppositeAnswer (some .long) D cy (wsC cy h) (adC h)) (hK : ∀ (u : Unit), G p l e (headSpec wsX7_upperOfOppositeAnswer rm_X7_upperOfOppositeAnswer).room s m args below meth c 4 0 0 D (wsC cy h) (adC h) (QM D (wsC cy h) (adC h) below args s 0 0 (fun r : Int64 × Wd => some (.long r.1)) (fun r => r.2)) 46 [] [] σ (K u)) :
  ∀ (n : Nat) (x2 : Int32) (x3 : Int32), G p l e (headSpec wsX7_upperOfOppositeAnswer rm_X7_upperOfOppositeAnswer).room s m args below meth c 4 0 0 D (wsC cy h) (adC h) (QM D (wsC cy h) (adC h) below args s 0 0 (fun r : Int64 × Wd => some (.long r.1)) (fun r => r.2)) 4 [(0, .ref (h 0)), (1, .int x1), (2, .int x2), (3, .int x3)] [] σ (fl_X7_upperOfOppositeAnswer_4 N σ x1 K n x2 x3) := by
  intro n
  induction n with
  | zero => intros; exact G.no
  | succ n ih =>
    intro x2 x3
    rw [fl_X7_upperOfOppositeAnswer_4]
    refine G.iload_n E dX7_upperOfOppositeAnswer_4 3 rfl rfl ?_
    refine G.bipush (v := 7) E dX7_upperOfOppositeAnswer_5 (by decide) ?_
    refine G.icmp_ge (tgt := 46) E dX7_upperOfOppositeAnswer_7 (by decide) ?_ ?_
    · refine G.loc [] rfl ?_
      exact hK ()
    · refine G.iload_n E dX7_upperOfOppositeAnswer_10 3 rfl rfl ?_
      refine G.iload_n E dX7_upperOfOppositeAnswer_11 1 rfl rfl ?_
      refine G.jn (P := fun j => ∀ (v1 : Int32), G p l e (headSpec wsX7_upperOfOppositeAnswer rm_X7_upperOfOppositeAnswer).room s m args below meth c 4 0 0 D (wsC cy h) (adC h) (QM D (wsC cy h) (adC h) below args s 0 0 (fun r : Int64 × Wd => some (.long r.1)) (fun r => r.2)) 40 [(0, .ref (h 0)), (1, .int x1), (2, .int v1), (3, .int x3)] [] σ (j v1)) ?_ (fun j40 hj40 => ?_)
      · intro v1
        refine G.iinc (v := x3 + 1) (lv' := [(3, .int (x3 + 1)), (0, .ref (h 0)), (1, .int x1), (2, .int v1)]) E dX7_upperOfOppositeAnswer_40 3 rfl rfl (by decide) rfl ?_
        refine G.goto (tgt := 4) E dX7_upperOfOppositeAnswer_43 (by decide) ?_
        refine G.loc [1, 2, 3, 0] rfl ?_
        exact ih v1 (x3 + 1)
      · refine G.icmp_eq (tgt := 40) E dX7_upperOfOppositeAnswer_12 (by decide) ?_ ?_
        · refine G.loc [0, 1, 2, 3] rfl ?_
          exact hj40 x2
        · refine G.aload_n E dX7_upperOfOppositeAnswer_15 0 rfl rfl ?_
          refine G.getR (T := TX7) (N := 7) (C := RX7) (q0 := 0) (i := 0) E dX7_upperOfOppositeAnswer_16 iw_X7_upperOfOppositeAnswer_7 (wsC_at0 _ _ _) rfl (by decide) rfl (List.mem_of_getElem? (i := 1) rfl) ?_
          refine G.iload_n E dX7_upperOfOppositeAnswer_19 3 rfl rfl ?_
          refine G.callVi (n := 1) (T := TX4) (N := 8) (C := RX4) (a := h 1) (q0 := 1) (As := [.int x3]) E dX7_upperOfOppositeAnswer_20 (fun _ hv => c_X4_hasEdge E.wf hv) gX7_upperOfOppositeAnswer_X4_hasEdge rfl rfl rfl (by decide +kernel) ⟨Nat.le_of_ble_eq_true rfl, Nat.le_of_ble_eq_true rfl⟩ (wsC_at1 _ _ _) rfl rfl (Nat.le_of_ble_eq_true rfl) ⟨Nat.le_of_ble_eq_true rfl, Nat.le_of_ble_eq_true rfl⟩ (fun v2 => ?_)
          refine G.if_eq (tgt := 40) E dX7_upperOfOppositeAnswer_23 (by decide) ?_ ?_
          · refine G.loc [0, 1, 2, 3] rfl ?_
            exact hj40 x2
          · refine G.iload_n E dX7_upperOfOppositeAnswer_26 2 rfl rfl ?_
            refine G.iconst (v := (-1)) E dX7_upperOfOppositeAnswer_27 (by decide) ?_
            refine G.icmp_eq (tgt := 38) E dX7_upperOfOppositeAnswer_28 (by decide) ?_ ?_
            · refine G.iload_n E dX7_upperOfOppositeAnswer_38 3 rfl rfl ?_
              refine G.istore_n (lv' := [(2, .int x3), (0, .ref (h 0)), (1, .int x1), (3, .int x3)]) E dX7_upperOfOppositeAnswer_39 rfl (by decide) rfl ?_
              refine G.loc [1, 2, 0, 3] rfl ?_
              exact hj40 x3
            · refine G.aload_n E dX7_upperOfOppositeAnswer_31 0 rfl rfl ?_
              refine G.iload_n E dX7_upperOfOppositeAnswer_32 2 rfl rfl ?_
              refine G.iload_n E dX7_upperOfOppositeAnswer_33 3 rfl rfl ?_
              refine G.callVls (n := 2) (T := TX7) (N := 7) (C := RX7) (a := h 0) (q0 := 0) (As := [.int x2, .int x3]) E dX7_upperOfOppositeAnswer_34 (fun _ _ hv => c_X7_upperOfAnswer E.wf hv) gX7_upperOfOppositeAnswer_X7_upperOfAnswer rfl rfl rfl (by decide +kernel) ⟨Nat.le_of_ble_eq_true rfl, Nat.le_of_ble_eq_true rfl⟩ (wsC_at0 _ _ _) rfl rfl (Nat.le_of_ble_eq_true rfl) ⟨Nat.le_of_ble_eq_true rfl, Nat.le_of_ble_eq_true rfl⟩ (fun v3 s4 => ?_)
              exact G.lret E dX7_upperOfOppositeAnswer_37 rfl rfl
noncomputable def f_X7_upperOfOppositeAnswer (N : Nat) (σ : Wd) (a0 : Int32) : Option (Int64 × Wd) :=
  fl_X7_upperOfOppositeAnswer_4 N σ a0 (fun (_ : Unit) =>
    some (0, σ)) N (-1) 0
set_option maxHeartbeats 4000000 in
set_option maxRecDepth 100000 in
theorem c_X7_upperOfOppositeAnswer {l : Launch} {D : va_G} {cy : Nat → ClassId} {h : Nat → Nat} {N : Nat} {σ : Wd} {a0 : Int32} {r : Int64} {σ1 : Wd} (hW : WF (wsC cy h) (adC h)) (hr : f_X7_upperOfOppositeAnswer N σ a0 = some (r, σ1)) : Con l D cy (wsC cy h) (adC h) yX7_upperOfOppositeAnswer wsX7_upperOfOppositeAnswer rm_X7_upperOfOppositeAnswer 0 0 [.ref (h 0), .int a0] (some (.long r)) σ σ1 := by
  refine Con.of (ρ := Int64 × Wd) (lv0 := [(0, .ref (h 0)), (1, .int a0)]) (σ := σ) (fun r : Int64 × Wd => some (.long r.1)) (fun r => r.2) (by decide) rfl rfl (Nat.le_of_ble_eq_true rfl) rfl hW hr (fun p e s m args below meth c E => ?_)
  unfold f_X7_upperOfOppositeAnswer
  refine G.iconst (v := (-1)) E dX7_upperOfOppositeAnswer_0 (by decide) ?_
  refine G.istore_n (lv' := [(2, .int (-1)), (0, .ref (h 0)), (1, .int a0)]) E dX7_upperOfOppositeAnswer_1 rfl (by decide) rfl ?_
  refine G.iconst (v := 0) E dX7_upperOfOppositeAnswer_2 (by decide) ?_
  refine G.istore_n (lv' := [(3, .int 0), (2, .int (-1)), (0, .ref (h 0)), (1, .int a0)]) E dX7_upperOfOppositeAnswer_3 rfl (by decide) rfl ?_
  refine G.loc [2, 3, 1, 0] rfl ?_
  refine gl_X7_upperOfOppositeAnswer_4 E (fun _ => ?_) N _ _
  refine G.lconst (v := 0) E dX7_upperOfOppositeAnswer_46 (by decide) ?_
  exact G.lret E dX7_upperOfOppositeAnswer_47 rfl rfl
set_option maxHeartbeats 4000000 in
set_option maxRecDepth 100000 in
theorem iw_X7_starred_4 : ∀ w ∈ u_ws RX4 TX4 8, w ∈ wsX7_starred := fun _ h => List.mem_cons_of_mem _ (List.mem_append_left _ (List.mem_append_left _ (List.mem_append_right _ h)))
set_option maxHeartbeats 4000000 in
set_option maxRecDepth 100000 in
theorem iw_X7_starred_7 : ∀ w ∈ u_ws RX7 TX7 7, w ∈ wsX7_starred := fun _ h => List.mem_cons_of_mem _ (List.mem_append_left _ (List.mem_append_left _ (List.mem_append_left _ (List.mem_append_right _ h))))
abbrev rm_X7_starred : Room := { frames := 16, cells := 1, slots := 6, locals := 403 }
noncomputable def fl_X7_starred_23 (N : Nat) (x1 : Int32) (x2 : Int32) (K : Wd → Option ((Nat ⊕ Int64) × Wd)) : Nat → Int32 → Wd → Option ((Nat ⊕ Int64) × Wd)
  | 0, _, _ => none
  | n + 1, x3, s0 =>
    if 7 ≤ x3 then (
      K s0)
    else (
      bP (f_X4_hasEdge N s0 x3) fun v5 =>
      jn (fun (s6 : Wd) => ((
        fl_X7_starred_23 N x1 x2 K n (x3 + 1) s6) : Option ((Nat ⊕ Int64) × Wd))) fun j52 =>
      if v5 = 0 then (
        j52 s0)
      else (
        bS (f_X7_upperOfOppositeAnswer N s0 x3) fun v7 s8 =>
        if (lg_cmp v7 0) = 0 then (
          some (.inr 0, s8))
        else (
          j52 s8)))
set_option maxHeartbeats 4000000 in
set_option maxRecDepth 100000 in
theorem gl_X7_starred_23 {N : Nat} {x1 : Int32} {x2 : Int32} {K : Wd → Option ((Nat ⊕ Int64) × Wd)} (E : EV p s m args meth c cX7_starred 4 RX7 wsX7_starred (some .long) D cy (wsC cy h) (adC h)) (EX0 : EX l c) (hK : ∀ (s' : Wd), G p l e (headSpec wsX7_starred rm_X7_starred).room s m args below meth c 4 1 6 D (wsC cy h) (adC h) (QX D (wsC cy h) (adC h) below args s 1 6 ooL (fun r => r.2)) 58 [(0, .ref (h 0)), (1, .int x1), (2, .int x2)] [] s' (K s')) :
  ∀ (n : Nat) (x3 : Int32) (s0 : Wd), G p l e (headSpec wsX7_starred rm_X7_starred).room s m args below meth c 4 1 6 D (wsC cy h) (adC h) (QX D (wsC cy h) (adC h) below args s 1 6 ooL (fun r => r.2)) 23 [(0, .ref (h 0)), (1, .int x1), (2, .int x2), (3, .int x3)] [] s0 (fl_X7_starred_23 N x1 x2 K n x3 s0) := by
  intro n
  induction n with
  | zero => intros; exact G.no
  | succ n ih =>
    intro x3 s0
    rw [fl_X7_starred_23]
    refine G.iload_n E dX7_starred_23 3 rfl rfl ?_
    refine G.bipush (v := 7) E dX7_starred_24 (by decide) ?_
    refine G.icmp_ge (tgt := 58) E dX7_starred_26 (by decide) ?_ ?_
    · refine G.loc [0, 1, 2] rfl ?_
      exact hK s0
    · refine G.aload_n E dX7_starred_29 0 rfl rfl ?_
      refine G.getR (T := TX7) (N := 7) (C := RX7) (q0 := 0) (i := 0) E dX7_starred_30 iw_X7_starred_7 (wsC_at0 _ _ _) rfl (by decide) rfl (List.mem_of_getElem? (i := 1) rfl) ?_
      refine G.iload_n E dX7_starred_33 3 rfl rfl ?_
      refine G.callVi (n := 1) (T := TX4) (N := 8) (C := RX4) (a := h 1) (q0 := 1) (As := [.int x3]) E dX7_starred_34 (fun _ hv => c_X4_hasEdge E.wf hv) gX7_starred_X4_hasEdge rfl rfl rfl (by decide +kernel) ⟨Nat.le_of_ble_eq_true rfl, Nat.le_of_ble_eq_true rfl⟩ (wsC_at1 _ _ _) rfl rfl (Nat.le_of_ble_eq_true rfl) ⟨Nat.le_of_ble_eq_true rfl, Nat.le_of_ble_eq_true rfl⟩ (fun v5 => ?_)
      refine G.jn (P := fun j => ∀ (s6 : Wd), G p l e (headSpec wsX7_starred rm_X7_starred).room s m args below meth c 4 1 6 D (wsC cy h) (adC h) (QX D (wsC cy h) (adC h) below args s 1 6 ooL (fun r => r.2)) 52 [(0, .ref (h 0)), (1, .int x1), (2, .int x2), (3, .int x3)] [] s6 (j s6)) ?_ (fun j52 hj52 => ?_)
      · intro s6
        refine G.iinc (v := x3 + 1) (lv' := [(3, .int (x3 + 1)), (0, .ref (h 0)), (1, .int x1), (2, .int x2)]) E dX7_starred_52 3 rfl rfl (by decide) rfl ?_
        refine G.goto (tgt := 23) E dX7_starred_55 (by decide) ?_
        refine G.loc [1, 2, 3, 0] rfl ?_
        exact ih (x3 + 1) s6
      · refine G.if_eq (tgt := 52) E dX7_starred_37 (by decide) ?_ ?_
        · refine G.loc [0, 1, 2, 3] rfl ?_
          exact hj52 s0
        · refine G.aload_n E dX7_starred_40 0 rfl rfl ?_
          refine G.iload_n E dX7_starred_41 3 rfl rfl ?_
          refine G.callVls (n := 1) (T := TX7) (N := 7) (C := RX7) (a := h 0) (q0 := 0) (As := [.int x3]) E dX7_starred_42 (fun _ _ hv => c_X7_upperOfOppositeAnswer E.wf hv) gX7_starred_X7_upperOfOppositeAnswer rfl rfl rfl (by decide +kernel) ⟨Nat.le_of_ble_eq_true rfl, Nat.le_of_ble_eq_true rfl⟩ (wsC_at0 _ _ _) rfl rfl (Nat.le_of_ble_eq_true rfl) ⟨Nat.le_of_ble_eq_true rfl, Nat.le_of_ble_eq_true rfl⟩ (fun v7 s8 => ?_)
          refine G.lconst (v := 0) E dX7_starred_45 (by decide) ?_
          refine G.lcmp E dX7_starred_46 ?_
          refine G.if_ne (tgt := 52) E dX7_starred_47 (by decide) ?_ ?_
          · refine G.lconst (v := 0) E dX7_starred_50 (by decide) ?_
            exact G.x_lret E dX7_starred_51 rfl (Nat.le_of_ble_eq_true rfl) (Nat.le_of_ble_eq_true rfl) rfl rfl
          · refine G.loc [0, 1, 2, 3] rfl ?_
            exact hj52 s8
noncomputable def f_X7_starred (N : Nat) (σ : Wd) (a0 : Int32) (a1 : Int32) : Option ((Nat ⊕ Int64) × Wd) :=
  bX (f_X7_needEdge N σ a0) fun v1 s2 =>
  gI s2 1 1 fun v3 =>
  bP (f_J6_bitCount_0f7a4 N v3) fun v4 =>
  if v4 = 3 then (
    fl_X7_starred_23 N a0 a1 (fun s9 =>
      bS (f_X7_countTrees N s9) fun v10 s11 =>
      bS (f_X7_upperOfOppositeAnswer N s11 a0) fun v12 s13 =>
      bP (f_X7_partOf N v10 v12 a1) fun v14 =>
      some (.inr v14, s13)) N 0 s2)
  else (
    some (.inr 0, s2))
set_option maxHeartbeats 4000000 in
set_option maxRecDepth 100000 in
theorem c_X7_starred {l : Launch} {D : va_G} {cy : Nat → ClassId} {h : Nat → Nat} {N : Nat} {σ : Wd} {a0 : Int32} {a1 : Int32} {r : (Nat ⊕ Int64) × Wd} (hW : WF (wsC cy h) (adC h)) (hfl : l.stackTraces = false) (hr : f_X7_starred N σ a0 a1 = some r) : ConX l D cy (wsC cy h) (adC h) yX7_starred wsX7_starred rm_X7_starred 1 6 [.ref (h 0), .int a0, .int a1] (ooL r) σ r.2 := by
  refine ConX.of (lv0 := [(0, .ref (h 0)), (1, .int a0), (2, .int a1)]) (σ := σ) ooL (fun r => r.2) (by decide) rfl rfl (Nat.le_of_ble_eq_true rfl) rfl hW hfl hr (fun p e s m args below meth c E EX0 => ?_)
  unfold f_X7_starred
  refine G.aload_n E dX7_starred_0 0 rfl rfl ?_
  refine G.iload_n E dX7_starred_1 1 rfl rfl ?_
  refine G.callXv (n := 1) (T := TX7) (N := 7) (C := RX7) (a := h 0) (q0 := 0) (As := [.int a0]) E EX0 dX7_starred_2 (fun _ hv => c_X7_needEdge E.wf EX0.1 hv) gX7_starred_X7_needEdge rfl rfl rfl (by decide +kernel) ⟨(Nat.le_of_ble_eq_true rfl), (Nat.le_of_ble_eq_true rfl)⟩ (wsC_at0 _ _ _) rfl rfl (Nat.le_of_ble_eq_true rfl) ⟨(Nat.le_of_ble_eq_true rfl), (Nat.le_of_ble_eq_true rfl)⟩ (Nat.le_of_ble_eq_true rfl) (Nat.le_of_ble_eq_true rfl) (fun _ _ => rfl) (fun v1 s2 => ?_)
  refine G.aload_n E dX7_starred_5 0 rfl rfl ?_
  refine G.getR (T := TX7) (N := 7) (C := RX7) (q0 := 0) (i := 0) E dX7_starred_6 iw_X7_starred_7 (wsC_at0 _ _ _) rfl (by decide) rfl (List.mem_of_getElem? (i := 1) rfl) ?_
  refine G.getI (T := TX4) (N := 8) (C := RX4) (q0 := 1) (i := 1) E dX7_starred_9 iw_X7_starred_4 (wsC_at1 _ _ _) rfl (by decide) rfl (List.mem_of_getElem? (i := 2) rfl) (fun v3 => ?_)
  refine G.callSi (n := 1) (As := [.int v3]) E dX7_starred_12 (fun _ hv => c_J6_bitCount_0f7a4 E.wf hv) gX7_starred_J6_bitCount_0f7a4 rfl rfl rfl (by decide +kernel) ⟨Nat.le_of_ble_eq_true rfl, Nat.le_of_ble_eq_true rfl⟩ rfl (Nat.le_of_ble_eq_true rfl) ⟨Nat.le_of_ble_eq_true rfl, Nat.le_of_ble_eq_true rfl⟩ (fun v4 => ?_)
  refine G.iconst (v := 3) E dX7_starred_15 (by decide) ?_
  refine G.icmp_eq (tgt := 21) E dX7_starred_16 (by decide) ?_ ?_
  · refine G.iconst (v := 0) E dX7_starred_21 (by decide) ?_
    refine G.istore_n (lv' := [(3, .int 0), (0, .ref (h 0)), (1, .int a0), (2, .int a1)]) E dX7_starred_22 rfl (by decide) rfl ?_
    refine G.loc [1, 2, 3, 0] rfl ?_
    refine gl_X7_starred_23 E EX0 (fun s9 => ?_) N _ _
    refine G.aload_n E dX7_starred_58 0 rfl rfl ?_
    refine G.callVls (n := 0) (T := TX7) (N := 7) (C := RX7) (a := h 0) (q0 := 0) (As := []) E dX7_starred_59 (fun _ _ hv => c_X7_countTrees E.wf hv) gX7_starred_X7_countTrees rfl rfl rfl (by decide +kernel) ⟨Nat.le_of_ble_eq_true rfl, Nat.le_of_ble_eq_true rfl⟩ (wsC_at0 _ _ _) rfl rfl (Nat.le_of_ble_eq_true rfl) ⟨Nat.le_of_ble_eq_true rfl, Nat.le_of_ble_eq_true rfl⟩ (fun v10 s11 => ?_)
    refine G.aload_n E dX7_starred_62 0 rfl rfl ?_
    refine G.iload_n E dX7_starred_63 1 rfl rfl ?_
    refine G.callVls (n := 1) (T := TX7) (N := 7) (C := RX7) (a := h 0) (q0 := 0) (As := [.int a0]) E dX7_starred_64 (fun _ _ hv => c_X7_upperOfOppositeAnswer E.wf hv) gX7_starred_X7_upperOfOppositeAnswer rfl rfl rfl (by decide +kernel) ⟨Nat.le_of_ble_eq_true rfl, Nat.le_of_ble_eq_true rfl⟩ (wsC_at0 _ _ _) rfl rfl (Nat.le_of_ble_eq_true rfl) ⟨Nat.le_of_ble_eq_true rfl, Nat.le_of_ble_eq_true rfl⟩ (fun v12 s13 => ?_)
    refine G.iload_n E dX7_starred_67 2 rfl rfl ?_
    refine G.callSl (n := 3) (As := [.long v10, .long v12, .int a1]) E dX7_starred_68 (fun _ hv => c_X7_partOf E.wf hv) gX7_starred_X7_partOf rfl rfl rfl (by decide +kernel) ⟨Nat.le_of_ble_eq_true rfl, Nat.le_of_ble_eq_true rfl⟩ rfl (Nat.le_of_ble_eq_true rfl) ⟨Nat.le_of_ble_eq_true rfl, Nat.le_of_ble_eq_true rfl⟩ (fun v14 => ?_)
    exact G.x_lret E dX7_starred_71 rfl (Nat.le_of_ble_eq_true rfl) (Nat.le_of_ble_eq_true rfl) rfl rfl
  · refine G.lconst (v := 0) E dX7_starred_19 (by decide) ?_
    exact G.x_lret E dX7_starred_20 rfl (Nat.le_of_ble_eq_true rfl) (Nat.le_of_ble_eq_true rfl) rfl rfl
set_option maxHeartbeats 4000000 in
set_option maxRecDepth 100000 in
theorem iw_X7_tree_7 : ∀ w ∈ u_ws RX7 TX7 7, w ∈ wsX7_tree := fun _ h => List.mem_cons_of_mem _ (List.mem_append_left _ (List.mem_append_left _ (List.mem_append_left _ (List.mem_append_right _ h))))
set_option maxHeartbeats 4000000 in
set_option maxRecDepth 100000 in
theorem ia_X7_tree_87 : ∀ w ∈ (vx_atS RX7 87 "java/lang/IllegalArgumentException" ["java/lang/RuntimeException", "java/lang/Exception"]).filter goodWord, w ∈ wsX7_tree := fun w h => List.mem_cons_of_mem _ (List.mem_append_right _ h)
abbrev rm_X7_tree : Room := { frames := 14, cells := 1, slots := 6, locals := 346 }
noncomputable def f_X7_tree (N : Nat) (σ : Wd) (a0 : Int32) : Option ((Nat ⊕ Int32) × Wd) :=
  if 0 ≤ a0 then (
    bS (f_X0_treeAt N σ a0) fun v1 s2 =>
    some (.inr v1, s2))
  else (
    some (.inl 2, σ))
set_option maxHeartbeats 4000000 in
set_option maxRecDepth 100000 in
theorem c_X7_tree {l : Launch} {D : va_G} {cy : Nat → ClassId} {h : Nat → Nat} {N : Nat} {σ : Wd} {a0 : Int32} {r : (Nat ⊕ Int32) × Wd} (hW : WF (wsC cy h) (adC h)) (hfl : l.stackTraces = false) (hr : f_X7_tree N σ a0 = some r) : ConX l D cy (wsC cy h) (adC h) yX7_tree wsX7_tree rm_X7_tree 1 6 [.ref (h 0), .int a0] (ooI r) σ r.2 := by
  refine ConX.of (lv0 := [(0, .ref (h 0)), (1, .int a0)]) (σ := σ) ooI (fun r => r.2) (by decide) rfl rfl (Nat.le_of_ble_eq_true rfl) rfl hW hfl hr (fun p e s m args below meth c E EX0 => ?_)
  unfold f_X7_tree
  refine G.iload_n E dX7_tree_0 1 rfl rfl ?_
  refine G.if_ge (tgt := 14) E dX7_tree_1 (by decide) ?_ ?_
  · refine G.aload_n E dX7_tree_14 0 rfl rfl ?_
    refine G.getR (T := TX7) (N := 7) (C := RX7) (q0 := 0) (i := 1) E dX7_tree_15 iw_X7_tree_7 (wsC_at0 _ _ _) rfl (by decide) rfl (List.mem_of_getElem? (i := 3) rfl) ?_
    refine G.iload_n E dX7_tree_18 1 rfl rfl ?_
    refine G.callVis (n := 1) (T := TX0) (N := 9) (C := RX0) (a := h 5) (q0 := 5) (As := [.int a0]) E dX7_tree_19 (fun _ _ hv => c_X0_treeAt E.wf hv) gX7_tree_X0_treeAt rfl rfl rfl (by decide +kernel) ⟨Nat.le_of_ble_eq_true rfl, Nat.le_of_ble_eq_true rfl⟩ (wsC_at5 _ _ _) rfl rfl (Nat.le_of_ble_eq_true rfl) ⟨Nat.le_of_ble_eq_true rfl, Nat.le_of_ble_eq_true rfl⟩ (fun v1 s2 => ?_)
    exact G.x_iret E dX7_tree_22 rfl (Nat.le_of_ble_eq_true rfl) (Nat.le_of_ble_eq_true rfl) rfl rfl
  · exact G.throwS (q := 2) (text := "a place is from 0") (cls := "java/lang/IllegalArgumentException") (names := ["java/lang/RuntimeException", "java/lang/Exception"]) E EX0 (by decide +kernel) (by decide +kernel) (List.mem_of_getElem? (i := 1) rfl) (List.mem_of_getElem? (i := 2) rfl) (by decide +kernel) ia_X7_tree_87 atg_87 (otw_83_87) dX7_tree_4 dX7_tree_7 dX7_tree_8 dX7_tree_10 dX7_tree_13 ⟨Nat.le_of_ble_eq_true rfl, Nat.le_of_ble_eq_true rfl⟩ ⟨Nat.le_of_ble_eq_true rfl, Nat.le_of_ble_eq_true rfl⟩ rfl rfl rfl (Nat.le_of_ble_eq_true rfl) (Nat.le_of_ble_eq_true rfl)
abbrev rm_X7_trees : Room := { frames := 16, cells := 0, slots := 0, locals := 400 }
noncomputable def f_X7_trees (N : Nat) (σ : Wd) : Option (Int64 × Wd) :=
  bS (f_X7_countTrees N σ) fun v1 s2 =>
  some (v1, s2)
set_option maxHeartbeats 4000000 in
set_option maxRecDepth 100000 in
theorem c_X7_trees {l : Launch} {D : va_G} {cy : Nat → ClassId} {h : Nat → Nat} {N : Nat} {σ : Wd} {r : Int64} {σ1 : Wd} (hW : WF (wsC cy h) (adC h)) (hr : f_X7_trees N σ = some (r, σ1)) : Con l D cy (wsC cy h) (adC h) yX7_trees wsX7_trees rm_X7_trees 0 0 [.ref (h 0)] (some (.long r)) σ σ1 := by
  refine Con.of (ρ := Int64 × Wd) (lv0 := [(0, .ref (h 0))]) (σ := σ) (fun r : Int64 × Wd => some (.long r.1)) (fun r => r.2) (by decide) rfl rfl (Nat.le_of_ble_eq_true rfl) rfl hW hr (fun p e s m args below meth c E => ?_)
  unfold f_X7_trees
  refine G.aload_n E dX7_trees_0 0 rfl rfl ?_
  refine G.callVls (n := 0) (T := TX7) (N := 7) (C := RX7) (a := h 0) (q0 := 0) (As := []) E dX7_trees_1 (fun _ _ hv => c_X7_countTrees E.wf hv) gX7_trees_X7_countTrees rfl rfl rfl (by decide +kernel) ⟨Nat.le_of_ble_eq_true rfl, Nat.le_of_ble_eq_true rfl⟩ (wsC_at0 _ _ _) rfl rfl (Nat.le_of_ble_eq_true rfl) ⟨Nat.le_of_ble_eq_true rfl, Nat.le_of_ble_eq_true rfl⟩ (fun v1 s2 => ?_)
  exact G.lret E dX7_trees_4 rfl rfl
set_option maxHeartbeats 4000000 in
set_option maxRecDepth 100000 in
theorem iw_X7_treesAnew_7 : ∀ w ∈ u_ws RX7 TX7 7, w ∈ wsX7_treesAnew := fun _ h => List.mem_cons_of_mem _ (List.mem_append_left _ (List.mem_append_left _ (List.mem_append_right _ h)))
abbrev rm_X7_treesAnew : Room := { frames := 13, cells := 0, slots := 0, locals := 352 }
noncomputable def f_X7_treesAnew (N : Nat) (σ : Wd) : Option (Int64 × Wd) :=
  bS (f_X2_countTreesAgain N σ) fun v1 s2 =>
  some (v1, s2)
set_option maxHeartbeats 4000000 in
set_option maxRecDepth 100000 in
theorem c_X7_treesAnew {l : Launch} {D : va_G} {cy : Nat → ClassId} {h : Nat → Nat} {N : Nat} {σ : Wd} {r : Int64} {σ1 : Wd} (hW : WF (wsC cy h) (adC h)) (hr : f_X7_treesAnew N σ = some (r, σ1)) : Con l D cy (wsC cy h) (adC h) yX7_treesAnew wsX7_treesAnew rm_X7_treesAnew 0 0 [.ref (h 0)] (some (.long r)) σ σ1 := by
  refine Con.of (ρ := Int64 × Wd) (lv0 := [(0, .ref (h 0))]) (σ := σ) (fun r : Int64 × Wd => some (.long r.1)) (fun r => r.2) (by decide) rfl rfl (Nat.le_of_ble_eq_true rfl) rfl hW hr (fun p e s m args below meth c E => ?_)
  unfold f_X7_treesAnew
  refine G.aload_n E dX7_treesAnew_0 0 rfl rfl ?_
  refine G.getR (T := TX7) (N := 7) (C := RX7) (q0 := 0) (i := 2) E dX7_treesAnew_1 iw_X7_treesAnew_7 (wsC_at0 _ _ _) rfl (by decide) rfl (List.mem_of_getElem? (i := 1) rfl) ?_
  refine G.callVls (n := 0) (T := TX2) (N := 3) (C := RX2) (a := h 16) (q0 := 16) (As := []) E dX7_treesAnew_4 (fun _ _ hv => c_X2_countTreesAgain E.wf hv) gX7_treesAnew_X2_countTreesAgain rfl rfl rfl (by decide +kernel) ⟨Nat.le_of_ble_eq_true rfl, Nat.le_of_ble_eq_true rfl⟩ (wsC_at16 _ _ _) rfl rfl (Nat.le_of_ble_eq_true rfl) ⟨Nat.le_of_ble_eq_true rfl, Nat.le_of_ble_eq_true rfl⟩ (fun v1 s2 => ?_)
  exact G.lret E dX7_treesAnew_7 rfl rfl
set_option maxHeartbeats 4000000 in
set_option maxRecDepth 100000 in
theorem iw_X7_undo_7 : ∀ w ∈ u_ws RX7 TX7 7, w ∈ wsX7_undo := fun _ h => List.mem_cons_of_mem _ (List.mem_append_left _ (List.mem_append_left _ (List.mem_append_left _ (List.mem_append_right _ h))))
set_option maxHeartbeats 4000000 in
set_option maxRecDepth 100000 in
theorem ia_X7_undo_65 : ∀ w ∈ (vx_atS RX7 65 "java/lang/IllegalStateException" ["java/lang/RuntimeException", "java/lang/Exception"]).filter goodWord, w ∈ wsX7_undo := fun w h => List.mem_cons_of_mem _ (List.mem_append_right _ h)
abbrev rm_X7_undo : Room := { frames := 8, cells := 1, slots := 6, locals := 120 }
noncomputable def f_X7_undo (N : Nat) (σ : Wd) : Option ((Nat ⊕ Int32) × Wd) :=
  bP (f_X3_howMany N σ) fun v1 =>
  if v1 = 0 then (
    some (.inl 3, σ))
  else (
    bP (f_X3_takeBack N σ) fun s2 =>
    bP (f_X3_howMany N s2) fun v3 =>
    some (.inr v3, s2))
set_option maxHeartbeats 4000000 in
set_option maxRecDepth 100000 in
theorem c_X7_undo {l : Launch} {D : va_G} {cy : Nat → ClassId} {h : Nat → Nat} {N : Nat} {σ : Wd} {r : (Nat ⊕ Int32) × Wd} (hW : WF (wsC cy h) (adC h)) (hfl : l.stackTraces = false) (hr : f_X7_undo N σ = some r) : ConX l D cy (wsC cy h) (adC h) yX7_undo wsX7_undo rm_X7_undo 1 6 [.ref (h 0)] (ooI r) σ r.2 := by
  refine ConX.of (lv0 := [(0, .ref (h 0))]) (σ := σ) ooI (fun r => r.2) (by decide) rfl rfl (Nat.le_of_ble_eq_true rfl) rfl hW hfl hr (fun p e s m args below meth c E EX0 => ?_)
  unfold f_X7_undo
  refine G.aload_n E dX7_undo_0 0 rfl rfl ?_
  refine G.getR (T := TX7) (N := 7) (C := RX7) (q0 := 0) (i := 4) E dX7_undo_1 iw_X7_undo_7 (wsC_at0 _ _ _) rfl (by decide) rfl (List.mem_of_getElem? (i := 3) rfl) ?_
  refine G.callVi (n := 0) (T := TX3) (N := 10) (C := RX3) (a := h 28) (q0 := 28) (As := []) E dX7_undo_4 (fun _ hv => c_X3_howMany E.wf hv) gX7_undo_X3_howMany rfl rfl rfl (by decide +kernel) ⟨Nat.le_of_ble_eq_true rfl, Nat.le_of_ble_eq_true rfl⟩ (wsC_at28 _ _ _) rfl rfl (Nat.le_of_ble_eq_true rfl) ⟨Nat.le_of_ble_eq_true rfl, Nat.le_of_ble_eq_true rfl⟩ (fun v1 => ?_)
  refine G.if_ne (tgt := 20) E dX7_undo_7 (by decide) ?_ ?_
  · exact G.throwS (q := 3) (text := "there is no move to undo") (cls := "java/lang/IllegalStateException") (names := ["java/lang/RuntimeException", "java/lang/Exception"]) E EX0 (by decide +kernel) (by decide +kernel) (List.mem_of_getElem? (i := 1) rfl) (List.mem_of_getElem? (i := 2) rfl) (by decide +kernel) ia_X7_undo_65 atg_65 (otw_61_65) dX7_undo_10 dX7_undo_13 dX7_undo_14 dX7_undo_16 dX7_undo_19 ⟨Nat.le_of_ble_eq_true rfl, Nat.le_of_ble_eq_true rfl⟩ ⟨Nat.le_of_ble_eq_true rfl, Nat.le_of_ble_eq_true rfl⟩ rfl rfl rfl (Nat.le_of_ble_eq_true rfl) (Nat.le_of_ble_eq_true rfl)
  · refine G.aload_n E dX7_undo_20 0 rfl rfl ?_
    refine G.getR (T := TX7) (N := 7) (C := RX7) (q0 := 0) (i := 4) E dX7_undo_21 iw_X7_undo_7 (wsC_at0 _ _ _) rfl (by decide) rfl (List.mem_of_getElem? (i := 3) rfl) ?_
    refine G.callVv (n := 0) (T := TX3) (N := 10) (C := RX3) (a := h 28) (q0 := 28) (As := []) E dX7_undo_24 (fun _ hv => c_X3_takeBack E.wf hv) gX7_undo_X3_takeBack rfl rfl rfl (by decide +kernel) ⟨Nat.le_of_ble_eq_true rfl, Nat.le_of_ble_eq_true rfl⟩ (wsC_at28 _ _ _) rfl rfl (Nat.le_of_ble_eq_true rfl) ⟨Nat.le_of_ble_eq_true rfl, Nat.le_of_ble_eq_true rfl⟩ (fun s2 => ?_)
    refine G.aload_n E dX7_undo_27 0 rfl rfl ?_
    refine G.getR (T := TX7) (N := 7) (C := RX7) (q0 := 0) (i := 4) E dX7_undo_28 iw_X7_undo_7 (wsC_at0 _ _ _) rfl (by decide) rfl (List.mem_of_getElem? (i := 3) rfl) ?_
    refine G.callVi (n := 0) (T := TX3) (N := 10) (C := RX3) (a := h 28) (q0 := 28) (As := []) E dX7_undo_31 (fun _ hv => c_X3_howMany E.wf hv) gX7_undo_X3_howMany rfl rfl rfl (by decide +kernel) ⟨Nat.le_of_ble_eq_true rfl, Nat.le_of_ble_eq_true rfl⟩ (wsC_at28 _ _ _) rfl rfl (Nat.le_of_ble_eq_true rfl) ⟨Nat.le_of_ble_eq_true rfl, Nat.le_of_ble_eq_true rfl⟩ (fun v3 => ?_)
    exact G.x_iret E dX7_undo_34 rfl (Nat.le_of_ble_eq_true rfl) (Nat.le_of_ble_eq_true rfl) rfl rfl
set_option maxHeartbeats 4000000 in
set_option maxRecDepth 100000 in
theorem ia_X7_value_87 : ∀ w ∈ (vx_atS RX7 87 "java/lang/IllegalArgumentException" ["java/lang/RuntimeException", "java/lang/Exception"]).filter goodWord, w ∈ wsX7_value := fun w h => List.mem_cons_of_mem _ (List.mem_append_left _ (List.mem_append_right _ h))
abbrev rm_X7_value : Room := { frames := 9, cells := 2, slots := 12, locals := 141 }
noncomputable def f_X7_value (N : Nat) (σ : Wd) (a0 : Int32) (a1 : Int32) : Option ((Nat ⊕ Unit) × Wd) :=
  bX (f_X7_needEdge N σ a0) fun v1 s2 =>
  jn (fun (_u : Unit) => ((
    some (.inl 2, s2)) : Option ((Nat ⊕ Unit) × Wd))) fun j17 =>
  if a1 < (-99) then (
    j17 ())
  else (
    if a1 ≤ 99 then (
      bP (f_X7_setValue N s2 a0 a1) fun s3 =>
      some (.inr (), s3))
    else (
      j17 ()))
set_option maxHeartbeats 4000000 in
set_option maxRecDepth 100000 in
theorem c_X7_value {l : Launch} {D : va_G} {cy : Nat → ClassId} {h : Nat → Nat} {N : Nat} {σ : Wd} {a0 : Int32} {a1 : Int32} {r : (Nat ⊕ Unit) × Wd} (hW : WF (wsC cy h) (adC h)) (hfl : l.stackTraces = false) (hr : f_X7_value N σ a0 a1 = some r) : ConX l D cy (wsC cy h) (adC h) yX7_value wsX7_value rm_X7_value 2 12 [.ref (h 0), .int a0, .int a1] (ooV r) σ r.2 := by
  refine ConX.of (lv0 := [(0, .ref (h 0)), (1, .int a0), (2, .int a1)]) (σ := σ) ooV (fun r => r.2) (by decide) rfl rfl (Nat.le_of_ble_eq_true rfl) rfl hW hfl hr (fun p e s m args below meth c E EX0 => ?_)
  unfold f_X7_value
  refine G.aload_n E dX7_value_0 0 rfl rfl ?_
  refine G.iload_n E dX7_value_1 1 rfl rfl ?_
  refine G.callXv (n := 1) (T := TX7) (N := 7) (C := RX7) (a := h 0) (q0 := 0) (As := [.int a0]) E EX0 dX7_value_2 (fun _ hv => c_X7_needEdge E.wf EX0.1 hv) gX7_value_X7_needEdge rfl rfl rfl (by decide +kernel) ⟨(Nat.le_of_ble_eq_true rfl), (Nat.le_of_ble_eq_true rfl)⟩ (wsC_at0 _ _ _) rfl rfl (Nat.le_of_ble_eq_true rfl) ⟨(Nat.le_of_ble_eq_true rfl), (Nat.le_of_ble_eq_true rfl)⟩ (Nat.le_of_ble_eq_true rfl) (Nat.le_of_ble_eq_true rfl) (fun _ _ => rfl) (fun v1 s2 => ?_)
  refine G.iload_n E dX7_value_5 2 rfl rfl ?_
  refine G.bipush (v := (-99)) E dX7_value_6 (by decide) ?_
  refine G.jn (P := fun j => ∀ (_u : Unit), G p l e (headSpec wsX7_value rm_X7_value).room s m args below meth c 3 1 6 D (wsC cy h) (adC h) (QX D (wsC cy h) (adC h) below args s 2 12 ooV (fun r => r.2)) 17 [] [] s2 (j _u)) ?_ (fun j17 hj17 => ?_)
  · intro _u
    exact G.throwS (q := 2) (text := "a value is -99 to 99") (cls := "java/lang/IllegalArgumentException") (names := ["java/lang/RuntimeException", "java/lang/Exception"]) E EX0 (by decide +kernel) (by decide +kernel) (List.mem_of_getElem? (i := 1) rfl) (List.mem_of_getElem? (i := 2) rfl) (by decide +kernel) ia_X7_value_87 atg_87 (otw_83_87) dX7_value_17 dX7_value_20 dX7_value_21 dX7_value_23 dX7_value_26 ⟨Nat.le_of_ble_eq_true rfl, Nat.le_of_ble_eq_true rfl⟩ ⟨Nat.le_of_ble_eq_true rfl, Nat.le_of_ble_eq_true rfl⟩ rfl rfl rfl (Nat.le_of_ble_eq_true rfl) (Nat.le_of_ble_eq_true rfl)
  · refine G.icmp_lt (tgt := 17) E dX7_value_8 (by decide) ?_ ?_
    · refine G.loc [] rfl ?_
      exact hj17 ()
    · refine G.iload_n E dX7_value_11 2 rfl rfl ?_
      refine G.bipush (v := 99) E dX7_value_12 (by decide) ?_
      refine G.icmp_le (tgt := 27) E dX7_value_14 (by decide) ?_ ?_
      · refine G.aload_n E dX7_value_27 0 rfl rfl ?_
        refine G.iload_n E dX7_value_28 1 rfl rfl ?_
        refine G.iload_n E dX7_value_29 2 rfl rfl ?_
        refine G.callVv (n := 2) (T := TX7) (N := 7) (C := RX7) (a := h 0) (q0 := 0) (As := [.int a0, .int a1]) E dX7_value_30 (fun _ hv => c_X7_setValue E.wf hv) gX7_value_X7_setValue rfl rfl rfl (by decide +kernel) ⟨Nat.le_of_ble_eq_true rfl, Nat.le_of_ble_eq_true rfl⟩ (wsC_at0 _ _ _) rfl rfl (Nat.le_of_ble_eq_true rfl) ⟨Nat.le_of_ble_eq_true rfl, Nat.le_of_ble_eq_true rfl⟩ (fun s3 => ?_)
        exact G.x_vret E dX7_value_33 rfl (Nat.le_of_ble_eq_true rfl) (Nat.le_of_ble_eq_true rfl) rfl rfl
      · refine G.loc [] rfl ?_
        exact hj17 ()
set_option maxHeartbeats 4000000 in
set_option maxRecDepth 100000 in
theorem iw_X7_wire_4 : ∀ w ∈ u_ws RX4 TX4 8, w ∈ wsX7_wire := fun _ h => List.mem_cons_of_mem _ (List.mem_append_left _ (List.mem_append_left _ (List.mem_append_left _ (List.mem_append_left _ (List.mem_append_right _ h)))))
set_option maxHeartbeats 4000000 in
set_option maxRecDepth 100000 in
theorem iw_X7_wire_7 : ∀ w ∈ u_ws RX7 TX7 7, w ∈ wsX7_wire := fun _ h => List.mem_cons_of_mem _ (List.mem_append_left _ (List.mem_append_left _ (List.mem_append_left _ (List.mem_append_left _ (List.mem_append_left _ (List.mem_append_right _ h))))))
set_option maxHeartbeats 4000000 in
set_option maxRecDepth 100000 in
theorem ia_X7_wire_65 : ∀ w ∈ (vx_atS RX7 65 "java/lang/IllegalStateException" ["java/lang/RuntimeException", "java/lang/Exception"]).filter goodWord, w ∈ wsX7_wire := fun w h => List.mem_cons_of_mem _ (List.mem_append_left _ (List.mem_append_right _ h))
set_option maxHeartbeats 4000000 in
set_option maxRecDepth 100000 in
theorem ia_X7_wire_87 : ∀ w ∈ (vx_atS RX7 87 "java/lang/IllegalArgumentException" ["java/lang/RuntimeException", "java/lang/Exception"]).filter goodWord, w ∈ wsX7_wire := fun w h => List.mem_cons_of_mem _ (List.mem_append_left _ (List.mem_append_left _ (List.mem_append_right _ h)))
abbrev rm_X7_wire : Room := { frames := 9, cells := 3, slots := 18, locals := 141 }
noncomputable def f_X7_wire (N : Nat) (σ : Wd) (a0 : Int32) (a1 : Int32) (a2 : Int32) : Option ((Nat ⊕ Int32) × Wd) :=
  bX (f_X7_needNode N σ a0) fun v1 s2 =>
  bX (f_X7_needNode N s2 a1) fun v3 s4 =>
  bP (f_X7_isConductance N a2) fun v5 =>
  if v5 = 0 then (
    some (.inl 2, s4))
  else (
    bP (f_X4_hasRoom N s4 0 1) fun v6 =>
    jn (fun (_u : Unit) => ((
      some (.inl 3, s4)) : Option ((Nat ⊕ Int32) × Wd))) fun j54 =>
    if v6 = 0 then (
      j54 ())
    else (
      gI s4 1 2 fun v7 =>
      bP (f_J6_bitCount_0f7a4 N v7) fun v8 =>
      if v8 < 12 then (
        bP (f_X3_forget N s4) fun s9 =>
        bS (f_X4_addWire N s9 a0 a1 a2) fun v10 s11 =>
        some (.inr v10, s11))
      else (
        j54 ())))
set_option maxHeartbeats 4000000 in
set_option maxRecDepth 100000 in
theorem c_X7_wire {l : Launch} {D : va_G} {cy : Nat → ClassId} {h : Nat → Nat} {N : Nat} {σ : Wd} {a0 : Int32} {a1 : Int32} {a2 : Int32} {r : (Nat ⊕ Int32) × Wd} (hW : WF (wsC cy h) (adC h)) (hfl : l.stackTraces = false) (hr : f_X7_wire N σ a0 a1 a2 = some r) : ConX l D cy (wsC cy h) (adC h) yX7_wire wsX7_wire rm_X7_wire 3 18 [.ref (h 0), .int a0, .int a1, .int a2] (ooI r) σ r.2 := by
  refine ConX.of (lv0 := [(0, .ref (h 0)), (1, .int a0), (2, .int a1), (3, .int a2)]) (σ := σ) ooI (fun r => r.2) (by decide) rfl rfl (Nat.le_of_ble_eq_true rfl) rfl hW hfl hr (fun p e s m args below meth c E EX0 => ?_)
  unfold f_X7_wire
  refine G.aload_n E dX7_wire_0 0 rfl rfl ?_
  refine G.iload_n E dX7_wire_1 1 rfl rfl ?_
  refine G.callXv (n := 1) (T := TX7) (N := 7) (C := RX7) (a := h 0) (q0 := 0) (As := [.int a0]) E EX0 dX7_wire_2 (fun _ hv => c_X7_needNode E.wf EX0.1 hv) gX7_wire_X7_needNode rfl rfl rfl (by decide +kernel) ⟨(Nat.le_of_ble_eq_true rfl), (Nat.le_of_ble_eq_true rfl)⟩ (wsC_at0 _ _ _) rfl rfl (Nat.le_of_ble_eq_true rfl) ⟨(Nat.le_of_ble_eq_true rfl), (Nat.le_of_ble_eq_true rfl)⟩ (Nat.le_of_ble_eq_true rfl) (Nat.le_of_ble_eq_true rfl) (fun _ _ => rfl) (fun v1 s2 => ?_)
  refine G.aload_n E dX7_wire_5 0 rfl rfl ?_
  refine G.iload_n E dX7_wire_6 2 rfl rfl ?_
  refine G.callXv (n := 1) (T := TX7) (N := 7) (C := RX7) (a := h 0) (q0 := 0) (As := [.int a1]) E EX0 dX7_wire_7 (fun _ hv => c_X7_needNode E.wf EX0.1 hv) gX7_wire_X7_needNode rfl rfl rfl (by decide +kernel) ⟨(Nat.le_of_ble_eq_true rfl), (Nat.le_of_ble_eq_true rfl)⟩ (wsC_at0 _ _ _) rfl rfl (Nat.le_of_ble_eq_true rfl) ⟨(Nat.le_of_ble_eq_true rfl), (Nat.le_of_ble_eq_true rfl)⟩ (Nat.le_of_ble_eq_true rfl) (Nat.le_of_ble_eq_true rfl) (fun _ _ => rfl) (fun v3 s4 => ?_)
  refine G.iload_n E dX7_wire_10 3 rfl rfl ?_
  refine G.callSi (n := 1) (As := [.int a2]) E dX7_wire_11 (fun _ hv => c_X7_isConductance E.wf hv) gX7_wire_X7_isConductance rfl rfl rfl (by decide +kernel) ⟨Nat.le_of_ble_eq_true rfl, Nat.le_of_ble_eq_true rfl⟩ rfl (Nat.le_of_ble_eq_true rfl) ⟨Nat.le_of_ble_eq_true rfl, Nat.le_of_ble_eq_true rfl⟩ (fun v5 => ?_)
  refine G.if_ne (tgt := 27) E dX7_wire_14 (by decide) ?_ ?_
  · exact G.throwS (q := 2) (text := "a conductance is 1 to 60") (cls := "java/lang/IllegalArgumentException") (names := ["java/lang/RuntimeException", "java/lang/Exception"]) E EX0 (by decide +kernel) (by decide +kernel) (List.mem_of_getElem? (i := 1) rfl) (List.mem_of_getElem? (i := 2) rfl) (by decide +kernel) ia_X7_wire_87 atg_87 (otw_83_87) dX7_wire_17 dX7_wire_20 dX7_wire_21 dX7_wire_23 dX7_wire_26 ⟨Nat.le_of_ble_eq_true rfl, Nat.le_of_ble_eq_true rfl⟩ ⟨Nat.le_of_ble_eq_true rfl, Nat.le_of_ble_eq_true rfl⟩ rfl rfl rfl (Nat.le_of_ble_eq_true rfl) (Nat.le_of_ble_eq_true rfl)
  · refine G.aload_n E dX7_wire_27 0 rfl rfl ?_
    refine G.getR (T := TX7) (N := 7) (C := RX7) (q0 := 0) (i := 0) E dX7_wire_28 iw_X7_wire_7 (wsC_at0 _ _ _) rfl (by decide) rfl (List.mem_of_getElem? (i := 5) rfl) ?_
    refine G.iconst (v := 0) E dX7_wire_31 (by decide) ?_
    refine G.iconst (v := 1) E dX7_wire_32 (by decide) ?_
    refine G.callVi (n := 2) (T := TX4) (N := 8) (C := RX4) (a := h 1) (q0 := 1) (As := [.int 0, .int 1]) E dX7_wire_33 (fun _ hv => c_X4_hasRoom E.wf hv) gX7_wire_X4_hasRoom rfl rfl rfl (by decide +kernel) ⟨Nat.le_of_ble_eq_true rfl, Nat.le_of_ble_eq_true rfl⟩ (wsC_at1 _ _ _) rfl rfl (Nat.le_of_ble_eq_true rfl) ⟨Nat.le_of_ble_eq_true rfl, Nat.le_of_ble_eq_true rfl⟩ (fun v6 => ?_)
    refine G.jn (P := fun j => ∀ (_u : Unit), G p l e (headSpec wsX7_wire rm_X7_wire).room s m args below meth c 4 2 12 D (wsC cy h) (adC h) (QX D (wsC cy h) (adC h) below args s 3 18 ooI (fun r => r.2)) 54 [] [] s4 (j _u)) ?_ (fun j54 hj54 => ?_)
    · intro _u
      exact G.throwS (q := 3) (text := "there were 20 wires, or there are 12") (cls := "java/lang/IllegalStateException") (names := ["java/lang/RuntimeException", "java/lang/Exception"]) E EX0 (by decide +kernel) (by decide +kernel) (List.mem_of_getElem? (i := 3) rfl) (List.mem_of_getElem? (i := 4) rfl) (by decide +kernel) ia_X7_wire_65 atg_65 (otw_61_65) dX7_wire_54 dX7_wire_57 dX7_wire_58 dX7_wire_60 dX7_wire_63 ⟨Nat.le_of_ble_eq_true rfl, Nat.le_of_ble_eq_true rfl⟩ ⟨Nat.le_of_ble_eq_true rfl, Nat.le_of_ble_eq_true rfl⟩ rfl rfl rfl (Nat.le_of_ble_eq_true rfl) (Nat.le_of_ble_eq_true rfl)
    · refine G.if_eq (tgt := 54) E dX7_wire_36 (by decide) ?_ ?_
      · refine G.loc [] rfl ?_
        exact hj54 ()
      · refine G.aload_n E dX7_wire_39 0 rfl rfl ?_
        refine G.getR (T := TX7) (N := 7) (C := RX7) (q0 := 0) (i := 0) E dX7_wire_40 iw_X7_wire_7 (wsC_at0 _ _ _) rfl (by decide) rfl (List.mem_of_getElem? (i := 5) rfl) ?_
        refine G.getI (T := TX4) (N := 8) (C := RX4) (q0 := 1) (i := 2) E dX7_wire_43 iw_X7_wire_4 (wsC_at1 _ _ _) rfl (by decide) rfl (List.mem_of_getElem? (i := 6) rfl) (fun v7 => ?_)
        refine G.callSi (n := 1) (As := [.int v7]) E dX7_wire_46 (fun _ hv => c_J6_bitCount_0f7a4 E.wf hv) gX7_wire_J6_bitCount_0f7a4 rfl rfl rfl (by decide +kernel) ⟨Nat.le_of_ble_eq_true rfl, Nat.le_of_ble_eq_true rfl⟩ rfl (Nat.le_of_ble_eq_true rfl) ⟨Nat.le_of_ble_eq_true rfl, Nat.le_of_ble_eq_true rfl⟩ (fun v8 => ?_)
        refine G.bipush (v := 12) E dX7_wire_49 (by decide) ?_
        refine G.icmp_lt (tgt := 64) E dX7_wire_51 (by decide) ?_ ?_
        · refine G.aload_n E dX7_wire_64 0 rfl rfl ?_
          refine G.getR (T := TX7) (N := 7) (C := RX7) (q0 := 0) (i := 4) E dX7_wire_65 iw_X7_wire_7 (wsC_at0 _ _ _) rfl (by decide) rfl (List.mem_of_getElem? (i := 7) rfl) ?_
          refine G.callVv (n := 0) (T := TX3) (N := 10) (C := RX3) (a := h 28) (q0 := 28) (As := []) E dX7_wire_68 (fun _ hv => c_X3_forget E.wf hv) gX7_wire_X3_forget rfl rfl rfl (by decide +kernel) ⟨Nat.le_of_ble_eq_true rfl, Nat.le_of_ble_eq_true rfl⟩ (wsC_at28 _ _ _) rfl rfl (Nat.le_of_ble_eq_true rfl) ⟨Nat.le_of_ble_eq_true rfl, Nat.le_of_ble_eq_true rfl⟩ (fun s9 => ?_)
          refine G.aload_n E dX7_wire_71 0 rfl rfl ?_
          refine G.getR (T := TX7) (N := 7) (C := RX7) (q0 := 0) (i := 0) E dX7_wire_72 iw_X7_wire_7 (wsC_at0 _ _ _) rfl (by decide) rfl (List.mem_of_getElem? (i := 5) rfl) ?_
          refine G.iload_n E dX7_wire_75 1 rfl rfl ?_
          refine G.iload_n E dX7_wire_76 2 rfl rfl ?_
          refine G.iload_n E dX7_wire_77 3 rfl rfl ?_
          refine G.callVis (n := 3) (T := TX4) (N := 8) (C := RX4) (a := h 1) (q0 := 1) (As := [.int a0, .int a1, .int a2]) E dX7_wire_78 (fun _ _ hv => c_X4_addWire E.wf hv) gX7_wire_X4_addWire rfl rfl rfl (by decide +kernel) ⟨Nat.le_of_ble_eq_true rfl, Nat.le_of_ble_eq_true rfl⟩ (wsC_at1 _ _ _) rfl rfl (Nat.le_of_ble_eq_true rfl) ⟨Nat.le_of_ble_eq_true rfl, Nat.le_of_ble_eq_true rfl⟩ (fun v10 s11 => ?_)
          exact G.x_iret E dX7_wire_81 rfl (Nat.le_of_ble_eq_true rfl) (Nat.le_of_ble_eq_true rfl) rfl rfl
        · refine G.loc [] rfl ?_
          exact hj54 ()
set_option maxHeartbeats 4000000 in
set_option maxRecDepth 100000 in
theorem iw_X7_wireIs_7 : ∀ w ∈ u_ws RX7 TX7 7, w ∈ wsX7_wireIs := fun _ h => List.mem_cons_of_mem _ (List.mem_append_left _ (List.mem_append_left _ (List.mem_append_left _ (List.mem_append_right _ h))))
set_option maxHeartbeats 4000000 in
set_option maxRecDepth 100000 in
theorem ia_X7_wireIs_87 : ∀ w ∈ (vx_atS RX7 87 "java/lang/IllegalArgumentException" ["java/lang/RuntimeException", "java/lang/Exception"]).filter goodWord, w ∈ wsX7_wireIs := fun w h => List.mem_cons_of_mem _ (List.mem_append_left _ (List.mem_append_right _ h))
abbrev rm_X7_wireIs : Room := { frames := 9, cells := 2, slots := 12, locals := 141 }
noncomputable def f_X7_wireIs (N : Nat) (σ : Wd) (a0 : Int32) (a1 : Int32) : Option ((Nat ⊕ Int32) × Wd) :=
  bX (f_X7_needWire N σ a0) fun v1 s2 =>
  jn (fun (_u : Unit) => ((
    some (.inl 2, s2)) : Option ((Nat ⊕ Int32) × Wd))) fun j14 =>
  if a1 < 0 then (
    j14 ())
  else (
    if a1 ≤ 2 then (
      if a1 = 0 then (
        bP (f_X4_firstOf N s2 a0) fun v5 =>
        some (.inr v5, s2))
      else (
        if a1 = 1 then (
          bP (f_X4_secondOf N s2 a0) fun v4 =>
          some (.inr v4, s2))
        else (
          bP (f_X4_conductanceOf N s2 a0) fun v3 =>
          some (.inr v3, s2))))
    else (
      j14 ()))
set_option maxHeartbeats 4000000 in
set_option maxRecDepth 100000 in
theorem c_X7_wireIs {l : Launch} {D : va_G} {cy : Nat → ClassId} {h : Nat → Nat} {N : Nat} {σ : Wd} {a0 : Int32} {a1 : Int32} {r : (Nat ⊕ Int32) × Wd} (hW : WF (wsC cy h) (adC h)) (hfl : l.stackTraces = false) (hr : f_X7_wireIs N σ a0 a1 = some r) : ConX l D cy (wsC cy h) (adC h) yX7_wireIs wsX7_wireIs rm_X7_wireIs 2 12 [.ref (h 0), .int a0, .int a1] (ooI r) σ r.2 := by
  refine ConX.of (lv0 := [(0, .ref (h 0)), (1, .int a0), (2, .int a1)]) (σ := σ) ooI (fun r => r.2) (by decide) rfl rfl (Nat.le_of_ble_eq_true rfl) rfl hW hfl hr (fun p e s m args below meth c E EX0 => ?_)
  unfold f_X7_wireIs
  refine G.aload_n E dX7_wireIs_0 0 rfl rfl ?_
  refine G.iload_n E dX7_wireIs_1 1 rfl rfl ?_
  refine G.callXv (n := 1) (T := TX7) (N := 7) (C := RX7) (a := h 0) (q0 := 0) (As := [.int a0]) E EX0 dX7_wireIs_2 (fun _ hv => c_X7_needWire E.wf EX0.1 hv) gX7_wireIs_X7_needWire rfl rfl rfl (by decide +kernel) ⟨(Nat.le_of_ble_eq_true rfl), (Nat.le_of_ble_eq_true rfl)⟩ (wsC_at0 _ _ _) rfl rfl (Nat.le_of_ble_eq_true rfl) ⟨(Nat.le_of_ble_eq_true rfl), (Nat.le_of_ble_eq_true rfl)⟩ (Nat.le_of_ble_eq_true rfl) (Nat.le_of_ble_eq_true rfl) (fun _ _ => rfl) (fun v1 s2 => ?_)
  refine G.iload_n E dX7_wireIs_5 2 rfl rfl ?_
  refine G.jn (P := fun j => ∀ (_u : Unit), G p l e (headSpec wsX7_wireIs rm_X7_wireIs).room s m args below meth c 3 1 6 D (wsC cy h) (adC h) (QX D (wsC cy h) (adC h) below args s 2 12 ooI (fun r => r.2)) 14 [] [] s2 (j _u)) ?_ (fun j14 hj14 => ?_)
  · intro _u
    exact G.throwS (q := 2) (text := "what is 0 to 2") (cls := "java/lang/IllegalArgumentException") (names := ["java/lang/RuntimeException", "java/lang/Exception"]) E EX0 (by decide +kernel) (by decide +kernel) (List.mem_of_getElem? (i := 1) rfl) (List.mem_of_getElem? (i := 2) rfl) (by decide +kernel) ia_X7_wireIs_87 atg_87 (otw_83_87) dX7_wireIs_14 dX7_wireIs_17 dX7_wireIs_18 dX7_wireIs_20 dX7_wireIs_23 ⟨Nat.le_of_ble_eq_true rfl, Nat.le_of_ble_eq_true rfl⟩ ⟨Nat.le_of_ble_eq_true rfl, Nat.le_of_ble_eq_true rfl⟩ rfl rfl rfl (Nat.le_of_ble_eq_true rfl) (Nat.le_of_ble_eq_true rfl)
  · refine G.if_lt (tgt := 14) E dX7_wireIs_6 (by decide) ?_ ?_
    · refine G.loc [] rfl ?_
      exact hj14 ()
    · refine G.iload_n E dX7_wireIs_9 2 rfl rfl ?_
      refine G.iconst (v := 2) E dX7_wireIs_10 (by decide) ?_
      refine G.icmp_le (tgt := 24) E dX7_wireIs_11 (by decide) ?_ ?_
      · refine G.iload_n E dX7_wireIs_24 2 rfl rfl ?_
        refine G.if_ne (tgt := 37) E dX7_wireIs_25 (by decide) ?_ ?_
        · refine G.aload_n E dX7_wireIs_28 0 rfl rfl ?_
          refine G.getR (T := TX7) (N := 7) (C := RX7) (q0 := 0) (i := 0) E dX7_wireIs_29 iw_X7_wireIs_7 (wsC_at0 _ _ _) rfl (by decide) rfl (List.mem_of_getElem? (i := 3) rfl) ?_
          refine G.iload_n E dX7_wireIs_32 1 rfl rfl ?_
          refine G.callVi (n := 1) (T := TX4) (N := 8) (C := RX4) (a := h 1) (q0 := 1) (As := [.int a0]) E dX7_wireIs_33 (fun _ hv => c_X4_firstOf E.wf hv) gX7_wireIs_X4_firstOf rfl rfl rfl (by decide +kernel) ⟨Nat.le_of_ble_eq_true rfl, Nat.le_of_ble_eq_true rfl⟩ (wsC_at1 _ _ _) rfl rfl (Nat.le_of_ble_eq_true rfl) ⟨Nat.le_of_ble_eq_true rfl, Nat.le_of_ble_eq_true rfl⟩ (fun v5 => ?_)
          exact G.x_iret E dX7_wireIs_36 rfl (Nat.le_of_ble_eq_true rfl) (Nat.le_of_ble_eq_true rfl) rfl rfl
        · refine G.iload_n E dX7_wireIs_37 2 rfl rfl ?_
          refine G.iconst (v := 1) E dX7_wireIs_38 (by decide) ?_
          refine G.icmp_ne (tgt := 53) E dX7_wireIs_39 (by decide) ?_ ?_
          · refine G.aload_n E dX7_wireIs_42 0 rfl rfl ?_
            refine G.getR (T := TX7) (N := 7) (C := RX7) (q0 := 0) (i := 0) E dX7_wireIs_43 iw_X7_wireIs_7 (wsC_at0 _ _ _) rfl (by decide) rfl (List.mem_of_getElem? (i := 3) rfl) ?_
            refine G.iload_n E dX7_wireIs_46 1 rfl rfl ?_
            refine G.callVi (n := 1) (T := TX4) (N := 8) (C := RX4) (a := h 1) (q0 := 1) (As := [.int a0]) E dX7_wireIs_47 (fun _ hv => c_X4_secondOf E.wf hv) gX7_wireIs_X4_secondOf rfl rfl rfl (by decide +kernel) ⟨Nat.le_of_ble_eq_true rfl, Nat.le_of_ble_eq_true rfl⟩ (wsC_at1 _ _ _) rfl rfl (Nat.le_of_ble_eq_true rfl) ⟨Nat.le_of_ble_eq_true rfl, Nat.le_of_ble_eq_true rfl⟩ (fun v4 => ?_)
            refine G.goto (tgt := 61) E dX7_wireIs_50 (by decide) ?_
            exact G.x_iret E dX7_wireIs_61 rfl (Nat.le_of_ble_eq_true rfl) (Nat.le_of_ble_eq_true rfl) rfl rfl
          · refine G.aload_n E dX7_wireIs_53 0 rfl rfl ?_
            refine G.getR (T := TX7) (N := 7) (C := RX7) (q0 := 0) (i := 0) E dX7_wireIs_54 iw_X7_wireIs_7 (wsC_at0 _ _ _) rfl (by decide) rfl (List.mem_of_getElem? (i := 3) rfl) ?_
            refine G.iload_n E dX7_wireIs_57 1 rfl rfl ?_
            refine G.callVi (n := 1) (T := TX4) (N := 8) (C := RX4) (a := h 1) (q0 := 1) (As := [.int a0]) E dX7_wireIs_58 (fun _ hv => c_X4_conductanceOf E.wf hv) gX7_wireIs_X4_conductanceOf rfl rfl rfl (by decide +kernel) ⟨Nat.le_of_ble_eq_true rfl, Nat.le_of_ble_eq_true rfl⟩ (wsC_at1 _ _ _) rfl rfl (Nat.le_of_ble_eq_true rfl) ⟨Nat.le_of_ble_eq_true rfl, Nat.le_of_ble_eq_true rfl⟩ (fun v3 => ?_)
            exact G.x_iret E dX7_wireIs_61 rfl (Nat.le_of_ble_eq_true rfl) (Nat.le_of_ble_eq_true rfl) rfl rfl
      · refine G.loc [] rfl ?_
        exact hj14 ()
set_option maxHeartbeats 4000000 in
set_option maxRecDepth 100000 in
theorem iw_X7_wires_4 : ∀ w ∈ u_ws RX4 TX4 8, w ∈ wsX7_wires := fun _ h => List.mem_cons_of_mem _ (List.mem_append_right _ h)
set_option maxHeartbeats 4000000 in
set_option maxRecDepth 100000 in
theorem iw_X7_wires_7 : ∀ w ∈ u_ws RX7 TX7 7, w ∈ wsX7_wires := fun _ h => List.mem_cons_of_mem _ (List.mem_append_left _ (List.mem_append_right _ h))
abbrev rm_X7_wires : Room := { frames := 0, cells := 0, slots := 0, locals := 0 }
noncomputable def f_X7_wires (N : Nat) (σ : Wd) : Option (Int32) :=
  gI σ 1 2 fun v1 =>
  some v1
set_option maxHeartbeats 4000000 in
set_option maxRecDepth 100000 in
theorem c_X7_wires {l : Launch} {D : va_G} {cy : Nat → ClassId} {h : Nat → Nat} {N : Nat} {σ : Wd} {r : Int32} (hW : WF (wsC cy h) (adC h)) (hr : f_X7_wires N σ = some r) : Con l D cy (wsC cy h) (adC h) yX7_wires wsX7_wires rm_X7_wires 0 0 [.ref (h 0)] (some (.int r)) σ σ := by
  refine Con.of (ρ := Int32) (lv0 := [(0, .ref (h 0))]) (σ := σ) (fun r : Int32 => some (.int r)) (fun _ => σ) (by decide) rfl rfl (Nat.le_of_ble_eq_true rfl) rfl hW hr (fun p e s m args below meth c E => ?_)
  unfold f_X7_wires
  refine G.aload_n E dX7_wires_0 0 rfl rfl ?_
  refine G.getR (T := TX7) (N := 7) (C := RX7) (q0 := 0) (i := 0) E dX7_wires_1 iw_X7_wires_7 (wsC_at0 _ _ _) rfl (by decide) rfl (List.mem_of_getElem? (i := 1) rfl) ?_
  refine G.getI (T := TX4) (N := 8) (C := RX4) (q0 := 1) (i := 2) E dX7_wires_4 iw_X7_wires_4 (wsC_at1 _ _ _) rfl (by decide) rfl (List.mem_of_getElem? (i := 2) rfl) (fun v1 => ?_)
  exact G.iret E dX7_wires_7 rfl rfl
end TR
