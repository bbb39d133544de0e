section TR
variable {p : Program} {l : Launch} {e : Env} {s : State} {m : MethodId} {args : Array Value} {below : List Frame} {meth : Method} {c : Code} {D : va_G} {cy : Nat → ClassId} {h : Nat → Nat}

set_option maxHeartbeats 4000000 in
set_option maxRecDepth 100000 in
theorem iw_X6_hasStrangeNode_6 : ∀ w ∈ u_ws RX6 TX6 2, w ∈ wsX6_hasStrangeNode := fun _ h => List.mem_cons_of_mem _ (List.mem_append_left _ (List.mem_append_right _ h))
abbrev rm_X6_hasStrangeNode : Room := { frames := 2, cells := 0, slots := 0, locals := 42 }
noncomputable def fl_X6_hasStrangeNode_4 (N : Nat) (σ : Wd) (K : Unit → Option (Int32)) : Nat → Int32 → Int32 → Option (Int32)
  | 0, _, _ => none
  | n + 1, x2, x3 =>
    if 10 ≤ x3 then (
      K ())
    else (
      if x2 ≤ 0 then (
        K ())
      else (
        mI x2 10 fun v1 =>
        jn (fun (_u : Unit) => ((
          dI x2 10 fun v2 =>
          fl_X6_hasStrangeNode_4 N σ K n v2 (x3 + 1)) : Option (Int32))) fun j39 =>
        if v1 = 0 then (
          j39 ())
        else (
          mI x2 10 fun v3 =>
          bP (f_X4_hasNode N σ (v3 - 1)) fun v4 =>
          if v4 = 0 then (
            some 1)
          else (
            j39 ()))))
set_option maxHeartbeats 4000000 in
set_option maxRecDepth 100000 in
theorem gl_X6_hasStrangeNode_4 {N : Nat} {σ : Wd} {K : Unit → Option (Int32)} (E : EV p s m args meth c cX6_hasStrangeNode 4 RX6 wsX6_hasStrangeNode (some .boolean) D cy (wsC cy h) (adC h)) (hK : ∀ (u : Unit), G p l e (headSpec wsX6_hasStrangeNode rm_X6_hasStrangeNode).room s m args below meth c 4 0 0 D (wsC cy h) (adC h) (QM D (wsC cy h) (adC h) below args s 0 0 (fun r : Int32 => some (.int r)) (fun _ => σ)) 50 [] [] σ (K u)) :
  ∀ (n : Nat) (x2 : Int32) (x3 : Int32), G p l e (headSpec wsX6_hasStrangeNode rm_X6_hasStrangeNode).room s m args below meth c 4 0 0 D (wsC cy h) (adC h) (QM D (wsC cy h) (adC h) below args s 0 0 (fun r : Int32 => some (.int r)) (fun _ => σ)) 4 [(0, .ref (h 26)), (2, .int x2), (3, .int x3)] [] σ (fl_X6_hasStrangeNode_4 N σ K n x2 x3) := by
  intro n
  induction n with
  | zero => intros; exact G.no
  | succ n ih =>
    intro x2 x3
    rw [fl_X6_hasStrangeNode_4]
    refine G.iload_n E dX6_hasStrangeNode_4 2 rfl rfl ?_
    refine G.bipush (v := 10) E dX6_hasStrangeNode_5 (by decide) ?_
    refine G.icmp_ge (tgt := 50) E dX6_hasStrangeNode_7 (by decide) ?_ ?_
    · refine G.loc [] rfl ?_
      exact hK ()
    · refine G.iload_n E dX6_hasStrangeNode_10 1 rfl rfl ?_
      refine G.if_le (tgt := 50) E dX6_hasStrangeNode_11 (by decide) ?_ ?_
      · refine G.loc [] rfl ?_
        exact hK ()
      · refine G.iload_n E dX6_hasStrangeNode_14 1 rfl rfl ?_
        refine G.bipush (v := 10) E dX6_hasStrangeNode_15 (by decide) ?_
        refine G.irem E dX6_hasStrangeNode_17 (fun v1 => ?_)
        refine G.jn (P := fun j => ∀ (_u : Unit), G p l e (headSpec wsX6_hasStrangeNode rm_X6_hasStrangeNode).room s m args below meth c 4 0 0 D (wsC cy h) (adC h) (QM D (wsC cy h) (adC h) below args s 0 0 (fun r : Int32 => some (.int r)) (fun _ => σ)) 39 [(0, .ref (h 26)), (2, .int x2), (3, .int x3)] [] σ (j _u)) ?_ (fun j39 hj39 => ?_)
        · intro _u
          refine G.iload_n E dX6_hasStrangeNode_39 1 rfl rfl ?_
          refine G.bipush (v := 10) E dX6_hasStrangeNode_40 (by decide) ?_
          refine G.idiv E dX6_hasStrangeNode_42 (fun v2 => ?_)
          refine G.istore_n (lv' := [(2, .int v2), (0, .ref (h 26)), (3, .int x3)]) E dX6_hasStrangeNode_43 rfl (by decide) rfl ?_
          refine G.iinc (v := x3 + 1) (lv' := [(3, .int (x3 + 1)), (2, .int v2), (0, .ref (h 26))]) E dX6_hasStrangeNode_44 2 rfl rfl (by decide) rfl ?_
          refine G.goto (tgt := 4) E dX6_hasStrangeNode_47 (by decide) ?_
          refine G.loc [2, 1, 0] rfl ?_
          exact ih v2 (x3 + 1)
        · refine G.if_eq (tgt := 39) E dX6_hasStrangeNode_18 (by decide) ?_ ?_
          · refine G.loc [0, 1, 2] rfl ?_
            exact hj39 ()
          · refine G.aload_n E dX6_hasStrangeNode_21 0 rfl rfl ?_
            refine G.getR (T := TX6) (N := 2) (C := RX6) (q0 := 26) (i := 0) E dX6_hasStrangeNode_22 iw_X6_hasStrangeNode_6 (wsC_at26 _ _ _) rfl (by decide) rfl (List.mem_of_getElem? (i := 1) rfl) ?_
            refine G.iload_n E dX6_hasStrangeNode_25 1 rfl rfl ?_
            refine G.bipush (v := 10) E dX6_hasStrangeNode_26 (by decide) ?_
            refine G.irem E dX6_hasStrangeNode_28 (fun v3 => ?_)
            refine G.iconst (v := 1) E dX6_hasStrangeNode_29 (by decide) ?_
            refine G.isub E dX6_hasStrangeNode_30 ?_
            refine G.callVi (n := 1) (T := TX4) (N := 8) (C := RX4) (a := h 1) (q0 := 1) (As := [.int (v3 - 1)]) E dX6_hasStrangeNode_31 (fun _ hv => c_X4_hasNode E.wf hv) gX6_hasStrangeNode_X4_hasNode rfl rfl rfl (by decide +kernel) ⟨Nat.le_of_ble_eq_true rfl, Nat.le_of_ble_eq_true rfl⟩ (wsC_at1 _ _ _) rfl rfl (Nat.le_of_ble_eq_true rfl) ⟨Nat.le_of_ble_eq_true rfl, Nat.le_of_ble_eq_true rfl⟩ (fun v4 => ?_)
            refine G.if_ne (tgt := 39) E dX6_hasStrangeNode_34 (by decide) ?_ ?_
            · refine G.iconst (v := 1) E dX6_hasStrangeNode_37 (by decide) ?_
              exact G.zretc E dX6_hasStrangeNode_38 rfl rfl rfl
            · refine G.loc [0, 1, 2] rfl ?_
              exact hj39 ()
noncomputable def f_X6_hasStrangeNode (N : Nat) (σ : Wd) (a0 : Int32) : Option (Int32) :=
  fl_X6_hasStrangeNode_4 N σ (fun (_ : Unit) =>
    some 0) N a0 0
set_option maxHeartbeats 4000000 in
set_option maxRecDepth 100000 in
theorem c_X6_hasStrangeNode {l : Launch} {D : va_G} {cy : Nat → ClassId} {h : Nat → Nat} {N : Nat} {σ : Wd} {a0 : Int32} {r : Int32} (hW : WF (wsC cy h) (adC h)) (hr : f_X6_hasStrangeNode N σ a0 = some r) : Con l D cy (wsC cy h) (adC h) yX6_hasStrangeNode wsX6_hasStrangeNode rm_X6_hasStrangeNode 0 0 [.ref (h 26), .int a0] (some (.int r)) σ σ := by
  refine Con.of (ρ := Int32) (lv0 := [(0, .ref (h 26)), (1, .int a0)]) (σ := σ) (fun r : Int32 => some (.int r)) (fun _ => σ) (by decide) rfl rfl (Nat.le_of_ble_eq_true rfl) rfl hW hr (fun p e s m args below meth c E => ?_)
  unfold f_X6_hasStrangeNode
  refine G.iload_n E dX6_hasStrangeNode_0 1 rfl rfl ?_
  refine G.istore_n (lv' := [(2, .int a0), (0, .ref (h 26)), (1, .int a0)]) E dX6_hasStrangeNode_1 rfl (by decide) rfl ?_
  refine G.iconst (v := 0) E dX6_hasStrangeNode_2 (by decide) ?_
  refine G.istore_n (lv' := [(3, .int 0), (2, .int a0), (0, .ref (h 26)), (1, .int a0)]) E dX6_hasStrangeNode_3 rfl (by decide) rfl ?_
  refine G.loc [2, 1, 0] rfl ?_
  refine gl_X6_hasStrangeNode_4 E (fun _ => ?_) N _ _
  refine G.iconst (v := 0) E dX6_hasStrangeNode_50 (by decide) ?_
  exact G.zretc E dX6_hasStrangeNode_51 rfl rfl rfl
abbrev rm_X6_hasZero : Room := { frames := 0, cells := 0, slots := 0, locals := 0 }
noncomputable def fl_X6_hasZero_4 (N : Nat) (K : Unit → Option (Int32)) : Nat → Int32 → Int32 → Option (Int32)
  | 0, _, _ => none
  | n + 1, x1, x2 =>
    if 10 ≤ x2 then (
      K ())
    else (
      if x1 ≤ 0 then (
        K ())
      else (
        mI x1 10 fun v1 =>
        if v1 = 0 then (
          some 1)
        else (
          dI x1 10 fun v2 =>
          fl_X6_hasZero_4 N K n v2 (x2 + 1))))
set_option maxHeartbeats 4000000 in
set_option maxRecDepth 100000 in
theorem gl_X6_hasZero_4 {N : Nat} {σ : Wd} {K : Unit → Option (Int32)} (E : EV p s m args meth c cX6_hasZero 3 RX6 wsX6_hasZero (some .boolean) D cy (wsC cy h) (adC h)) (hK : ∀ (u : Unit), G p l e (headSpec wsX6_hasZero rm_X6_hasZero).room s m args below meth c 3 0 0 D (wsC cy h) (adC h) (QM D (wsC cy h) (adC h) below args s 0 0 (fun r : Int32 => some (.int r)) (fun _ => σ)) 34 [] [] σ (K u)) :
  ∀ (n : Nat) (x1 : Int32) (x2 : Int32), G p l e (headSpec wsX6_hasZero rm_X6_hasZero).room s m args below meth c 3 0 0 D (wsC cy h) (adC h) (QM D (wsC cy h) (adC h) below args s 0 0 (fun r : Int32 => some (.int r)) (fun _ => σ)) 4 [(1, .int x1), (2, .int x2)] [] σ (fl_X6_hasZero_4 N K n x1 x2) := by
  intro n
  induction n with
  | zero => intros; exact G.no
  | succ n ih =>
    intro x1 x2
    rw [fl_X6_hasZero_4]
    refine G.iload_n E dX6_hasZero_4 1 rfl rfl ?_
    refine G.bipush (v := 10) E dX6_hasZero_5 (by decide) ?_
    refine G.icmp_ge (tgt := 34) E dX6_hasZero_7 (by decide) ?_ ?_
    · refine G.loc [] rfl ?_
      exact hK ()
    · refine G.iload_n E dX6_hasZero_10 0 rfl rfl ?_
      refine G.if_le (tgt := 34) E dX6_hasZero_11 (by decide) ?_ ?_
      · refine G.loc [] rfl ?_
        exact hK ()
      · refine G.iload_n E dX6_hasZero_14 0 rfl rfl ?_
        refine G.bipush (v := 10) E dX6_hasZero_15 (by decide) ?_
        refine G.irem E dX6_hasZero_17 (fun v1 => ?_)
        refine G.if_ne (tgt := 23) E dX6_hasZero_18 (by decide) ?_ ?_
        · refine G.iconst (v := 1) E dX6_hasZero_21 (by decide) ?_
          exact G.zretc E dX6_hasZero_22 rfl rfl rfl
        · refine G.iload_n E dX6_hasZero_23 0 rfl rfl ?_
          refine G.bipush (v := 10) E dX6_hasZero_24 (by decide) ?_
          refine G.idiv E dX6_hasZero_26 (fun v2 => ?_)
          refine G.istore_n (lv' := [(1, .int v2), (2, .int x2)]) E dX6_hasZero_27 rfl (by decide) rfl ?_
          refine G.iinc (v := x2 + 1) (lv' := [(2, .int (x2 + 1)), (1, .int v2)]) E dX6_hasZero_28 1 rfl rfl (by decide) rfl ?_
          refine G.goto (tgt := 4) E dX6_hasZero_31 (by decide) ?_
          refine G.loc [1, 0] rfl ?_
          exact ih v2 (x2 + 1)
noncomputable def f_X6_hasZero (N : Nat) (a0 : Int32) : Option (Int32) :=
  fl_X6_hasZero_4 N (fun (_ : Unit) =>
    some 0) N a0 0
set_option maxHeartbeats 4000000 in
set_option maxRecDepth 100000 in
theorem c_X6_hasZero {l : Launch} {D : va_G} {cy : Nat → ClassId} {h : Nat → Nat} {N : Nat} {σ : Wd} {a0 : Int32} {r : Int32} (hW : WF (wsC cy h) (adC h)) (hr : f_X6_hasZero N a0 = some r) : Con l D cy (wsC cy h) (adC h) yX6_hasZero wsX6_hasZero rm_X6_hasZero 0 0 [.int a0] (some (.int r)) σ σ := by
  refine Con.of (ρ := Int32) (lv0 := [(0, .int a0)]) (σ := σ) (fun r : Int32 => some (.int r)) (fun _ => σ) (by decide) rfl rfl (Nat.le_of_ble_eq_true rfl) rfl hW hr (fun p e s m args below meth c E => ?_)
  unfold f_X6_hasZero
  refine G.iload_n E dX6_hasZero_0 0 rfl rfl ?_
  refine G.istore_n (lv' := [(1, .int a0), (0, .int a0)]) E dX6_hasZero_1 rfl (by decide) rfl ?_
  refine G.iconst (v := 0) E dX6_hasZero_2 (by decide) ?_
  refine G.istore_n (lv' := [(2, .int 0), (1, .int a0), (0, .int a0)]) E dX6_hasZero_3 rfl (by decide) rfl ?_
  refine G.loc [1, 0] rfl ?_
  refine gl_X6_hasZero_4 E (fun _ => ?_) N _ _
  refine G.iconst (v := 0) E dX6_hasZero_34 (by decide) ?_
  exact G.zretc E dX6_hasZero_35 rfl rfl rfl
abbrev rm_X6_isWritten : Room := { frames := 1, cells := 0, slots := 0, locals := 22 }
noncomputable def f_X6_isWritten (N : Nat) (a0 : Int32) : Option (Int32) :=
  if a0 < 1 then (
    some 0)
  else (
    if 999999999 < a0 then (
      some 0)
    else (
      bP (f_X6_hasZero N a0) fun v1 =>
      if v1 = 0 then (
        some 1)
      else (
        some 0)))
set_option maxHeartbeats 4000000 in
set_option maxRecDepth 100000 in
theorem c_X6_isWritten {l : Launch} {D : va_G} {cy : Nat → ClassId} {h : Nat → Nat} {N : Nat} {σ : Wd} {a0 : Int32} {r : Int32} (hW : WF (wsC cy h) (adC h)) (hr : f_X6_isWritten N a0 = some r) : Con l D cy (wsC cy h) (adC h) yX6_isWritten wsX6_isWritten rm_X6_isWritten 0 0 [.ref (h 26), .int a0] (some (.int r)) σ σ := by
  refine Con.of (ρ := Int32) (lv0 := [(0, .ref (h 26)), (1, .int a0)]) (σ := σ) (fun r : Int32 => some (.int r)) (fun _ => σ) (by decide) rfl rfl (Nat.le_of_ble_eq_true rfl) rfl hW hr (fun p e s m args below meth c E => ?_)
  unfold f_X6_isWritten
  refine G.iload_n E dX6_isWritten_0 1 rfl rfl ?_
  refine G.iconst (v := 1) E dX6_isWritten_1 (by decide) ?_
  refine G.icmp_lt (tgt := 22) E dX6_isWritten_2 (by decide) ?_ ?_
  · refine G.iconst (v := 0) E dX6_isWritten_22 (by decide) ?_
    exact G.zretc E dX6_isWritten_23 rfl rfl rfl
  · refine G.iload_n E dX6_isWritten_5 1 rfl rfl ?_
    refine G.ldc (v := 999999999) E dX6_isWritten_6 (List.mem_of_getElem? (i := 1) rfl) ?_
    refine G.icmp_gt (tgt := 22) E dX6_isWritten_8 (by decide) ?_ ?_
    · refine G.iconst (v := 0) E dX6_isWritten_22 (by decide) ?_
      exact G.zretc E dX6_isWritten_23 rfl rfl rfl
    · refine G.iload_n E dX6_isWritten_11 1 rfl rfl ?_
      refine G.callSi (n := 1) (As := [.int a0]) E dX6_isWritten_12 (fun _ hv => c_X6_hasZero E.wf hv) gX6_isWritten_X6_hasZero rfl rfl rfl (by decide +kernel) ⟨Nat.le_of_ble_eq_true rfl, Nat.le_of_ble_eq_true rfl⟩ rfl (Nat.le_of_ble_eq_true rfl) ⟨Nat.le_of_ble_eq_true rfl, Nat.le_of_ble_eq_true rfl⟩ (fun v1 => ?_)
      refine G.if_ne (tgt := 22) E dX6_isWritten_15 (by decide) ?_ ?_
      · refine G.iconst (v := 1) E dX6_isWritten_18 (by decide) ?_
        refine G.goto (tgt := 23) E dX6_isWritten_19 (by decide) ?_
        exact G.zretc E dX6_isWritten_23 rfl rfl rfl
      · refine G.iconst (v := 0) E dX6_isWritten_22 (by decide) ?_
        exact G.zretc E dX6_isWritten_23 rfl rfl rfl
set_option maxHeartbeats 4000000 in
set_option maxRecDepth 100000 in
theorem iw_X6_read_6 : ∀ w ∈ u_ws RX6 TX6 2, w ∈ wsX6_read := fun _ h => List.mem_cons_of_mem _ (List.mem_append_right _ h)
abbrev rm_X6_read : Room := { frames := 0, cells := 0, slots := 0, locals := 0 }
noncomputable def fl_X6_read_4 {ρ : Type} (N : Nat) (σ : Wd) (x1 : Int32) (K : Int32 → Option ρ) : Nat → Int32 → Int32 → Option ρ
  | 0, _, _ => none
  | n + 1, x2, x3 =>
    if 9 ≤ x2 then (
      K x2)
    else (
      if x3 ≤ 0 then (
        K x2)
      else (
        dI x3 10 fun v1 =>
        fl_X6_read_4 N σ x1 K n (x2 + 1) v1))
set_option maxHeartbeats 4000000 in
set_option maxRecDepth 100000 in
theorem gl_X6_read_4 {ρ : Type} {Q : ρ → State → Prop} {N : Nat} {σ : Wd} {x1 : Int32} {K : Int32 → Option ρ} (E : EV p s m args meth c cX6_read 5 RX6 wsX6_read (some .int) D cy (wsC cy h) (adC h)) (hK : ∀ (x2' : Int32), G p l e (headSpec wsX6_read rm_X6_read).room s m args below meth c 5 0 0 D (wsC cy h) (adC h) Q 25 [(0, .ref (h 26)), (1, .int x1), (2, .int (x2'))] [] σ (K x2')) :
  ∀ (n : Nat) (x2 : Int32) (x3 : Int32), G p l e (headSpec wsX6_read rm_X6_read).room s m args below meth c 5 0 0 D (wsC cy h) (adC h) Q 4 [(0, .ref (h 26)), (1, .int x1), (2, .int x2), (3, .int x3)] [] σ (fl_X6_read_4 N σ x1 K n x2 x3) := by
  intro n
  induction n with
  | zero => intros; exact G.no
  | succ n ih =>
    intro x2 x3
    rw [fl_X6_read_4]
    refine G.iload_n E dX6_read_4 2 rfl rfl ?_
    refine G.bipush (v := 9) E dX6_read_5 (by decide) ?_
    refine G.icmp_ge (tgt := 25) E dX6_read_7 (by decide) ?_ ?_
    · refine G.loc [0, 1, 2] rfl ?_
      exact hK x2
    · refine G.iload_n E dX6_read_10 3 rfl rfl ?_
      refine G.if_le (tgt := 25) E dX6_read_11 (by decide) ?_ ?_
      · refine G.loc [0, 1, 2] rfl ?_
        exact hK x2
      · refine G.iinc (v := x2 + 1) (lv' := [(2, .int (x2 + 1)), (0, .ref (h 26)), (1, .int x1), (3, .int x3)]) E dX6_read_14 2 rfl rfl (by decide) rfl ?_
        refine G.iload_n E dX6_read_17 3 rfl rfl ?_
        refine G.bipush (v := 10) E dX6_read_18 (by decide) ?_
        refine G.idiv E dX6_read_20 (fun v1 => ?_)
        refine G.istore_n (lv' := [(3, .int v1), (2, .int (x2 + 1)), (0, .ref (h 26)), (1, .int x1)]) E dX6_read_21 rfl (by decide) rfl ?_
        refine G.goto (tgt := 4) E dX6_read_22 (by decide) ?_
        refine G.loc [2, 3, 1, 0] rfl ?_
        exact ih (x2 + 1) v1
noncomputable def fl_X6_read_32 {ρ : Type} (N : Nat) (x2 : Int32) (K : Wd → Option ρ) : Nat → Int32 → Int32 → Wd → Option ρ
  | 0, _, _, _ => none
  | n + 1, x3, x4, s0 =>
    if x4 < 0 then (
      K s0)
    else (
      mI x3 10 fun v4 =>
      aI s0 27 9 x4 (v4 - 1) fun s5 =>
      dI x3 10 fun v6 =>
      fl_X6_read_32 N x2 K n v6 (x4 + (-1)) s5)
set_option maxHeartbeats 4000000 in
set_option maxRecDepth 100000 in
theorem gl_X6_read_32 {ρ : Type} {Q : ρ → State → Prop} {N : Nat} {x2 : Int32} {K : Wd → Option ρ} (E : EV p s m args meth c cX6_read 5 RX6 wsX6_read (some .int) D cy (wsC cy h) (adC h)) (hK : ∀ (s' : Wd), G p l e (headSpec wsX6_read rm_X6_read).room s m args below meth c 5 0 0 D (wsC cy h) (adC h) Q 61 [(2, .int x2)] [] s' (K s')) :
  ∀ (n : Nat) (x3 : Int32) (x4 : Int32) (s0 : Wd), G p l e (headSpec wsX6_read rm_X6_read).room s m args below meth c 5 0 0 D (wsC cy h) (adC h) Q 32 [(0, .ref (h 26)), (2, .int x2), (3, .int x3), (4, .int x4)] [] s0 (fl_X6_read_32 N x2 K n x3 x4 s0) := by
  intro n
  induction n with
  | zero => intros; exact G.no
  | succ n ih =>
    intro x3 x4 s0
    rw [fl_X6_read_32]
    refine G.iload E dX6_read_32 3 rfl ?_
    refine G.if_lt (tgt := 61) E dX6_read_34 (by decide) ?_ ?_
    · refine G.loc [1] rfl ?_
      exact hK s0
    · refine G.aload_n E dX6_read_37 0 rfl rfl ?_
      refine G.getR (T := TX6) (N := 2) (C := RX6) (q0 := 26) (i := 1) E dX6_read_38 iw_X6_read_6 (wsC_at26 _ _ _) rfl (by decide) rfl (List.mem_of_getElem? (i := 1) rfl) ?_
      refine G.iload E dX6_read_41 3 rfl ?_
      refine G.iload_n E dX6_read_43 2 rfl rfl ?_
      refine G.bipush (v := 10) E dX6_read_44 (by decide) ?_
      refine G.irem E dX6_read_46 (fun v4 => ?_)
      refine G.iconst (v := 1) E dX6_read_47 (by decide) ?_
      refine G.isub E dX6_read_48 ?_
      refine G.iast (q0 := 27) E dX6_read_49 (wsC_at27 _ _ _) (fun j => wsC_set27 _ _ _ _ j) (fun s5 => ?_)
      refine G.iload_n E dX6_read_50 2 rfl rfl ?_
      refine G.bipush (v := 10) E dX6_read_51 (by decide) ?_
      refine G.idiv E dX6_read_53 (fun v6 => ?_)
      refine G.istore_n (lv' := [(3, .int v6), (0, .ref (h 26)), (2, .int x2), (4, .int x4)]) E dX6_read_54 rfl (by decide) rfl ?_
      refine G.iinc (v := x4 + (-1)) (lv' := [(4, .int (x4 + (-1))), (3, .int v6), (0, .ref (h 26)), (2, .int x2)]) E dX6_read_55 3 rfl rfl (by decide) rfl ?_
      refine G.goto (tgt := 32) E dX6_read_58 (by decide) ?_
      refine G.loc [2, 3, 1, 0] rfl ?_
      exact ih v6 (x4 + (-1)) s5
noncomputable def f_X6_read (N : Nat) (σ : Wd) (a0 : Int32) : Option (Int32 × Wd) :=
  fl_X6_read_4 N σ a0 (fun v2 =>
    lI (v2 - 1) fun v3 =>
    fl_X6_read_32 N v2 (fun s7 =>
      some (v2, s7)) N a0 v3 σ) N 0 a0
set_option maxHeartbeats 4000000 in
set_option maxRecDepth 100000 in
theorem c_X6_read {l : Launch} {D : va_G} {cy : Nat → ClassId} {h : Nat → Nat} {N : Nat} {σ : Wd} {a0 : Int32} {r : Int32} {σ1 : Wd} (hW : WF (wsC cy h) (adC h)) (hr : f_X6_read N σ a0 = some (r, σ1)) : Con l D cy (wsC cy h) (adC h) yX6_read wsX6_read rm_X6_read 0 0 [.ref (h 26), .int a0] (some (.int r)) σ σ1 := by
  refine Con.of (ρ := Int32 × Wd) (lv0 := [(0, .ref (h 26)), (1, .int a0)]) (σ := σ) (fun r : Int32 × Wd => some (.int r.1)) (fun r => r.2) (by decide) rfl rfl (Nat.le_of_ble_eq_true rfl) rfl hW hr (fun p e s m args below meth c E => ?_)
  unfold f_X6_read
  refine G.iconst (v := 0) E dX6_read_0 (by decide) ?_
  refine G.istore_n (lv' := [(2, .int 0), (0, .ref (h 26)), (1, .int a0)]) E dX6_read_1 rfl (by decide) rfl ?_
  refine G.iload_n E dX6_read_2 2 rfl rfl ?_
  refine G.istore_n (lv' := [(3, .int a0), (2, .int 0), (0, .ref (h 26)), (1, .int a0)]) E dX6_read_3 rfl (by decide) rfl ?_
  refine G.loc [2, 3, 1, 0] rfl ?_
  refine gl_X6_read_4 E (fun v2 => ?_) N _ _
  refine G.iload_n E dX6_read_25 1 rfl rfl ?_
  refine G.istore_n (lv' := [(3, .int a0), (0, .ref (h 26)), (1, .int a0), (2, .int v2)]) E dX6_read_26 rfl (by decide) rfl ?_
  refine G.iload_n E dX6_read_27 3 rfl rfl ?_
  refine G.iconst (v := 1) E dX6_read_28 (by decide) ?_
  refine G.isub E dX6_read_29 ?_
  refine G.letI (fun v3 => ?_)
  refine G.istore (lv' := [(4, .int v3), (3, .int a0), (0, .ref (h 26)), (1, .int a0), (2, .int v2)]) E dX6_read_30 (by decide) rfl ?_
  refine G.loc [2, 4, 1, 0] rfl ?_
  refine gl_X6_read_32 E (fun s7 => ?_) N _ _ _
  refine G.iload_n E dX6_read_61 0 rfl rfl ?_
  exact G.iret E dX6_read_62 rfl rfl
set_option maxHeartbeats 4000000 in
set_option maxRecDepth 100000 in
theorem iw_X6_write_6 : ∀ w ∈ u_ws RX6 TX6 2, w ∈ wsX6_write := fun _ h => List.mem_cons_of_mem _ (List.mem_append_right _ h)
abbrev rm_X6_write : Room := { frames := 0, cells := 0, slots := 0, locals := 0 }
noncomputable def fl_X6_write_4 {ρ : Type} (N : Nat) (σ : Wd) (x1 : Int32) (K : Int32 → Option ρ) : Nat → Int32 → Int32 → Option ρ
  | 0, _, _ => none
  | n + 1, x2, x3 =>
    if x1 ≤ x3 then (
      K x2)
    else (
      if 9 ≤ x3 then (
        K x2)
      else (
        rI σ 27 9 x3 fun v1 =>
        lI (((x2 * 10) + v1) + 1) fun v2 =>
        fl_X6_write_4 N σ x1 K n v2 (x3 + 1)))
set_option maxHeartbeats 4000000 in
set_option maxRecDepth 100000 in
theorem gl_X6_write_4 {ρ : Type} {Q : ρ → State → Prop} {N : Nat} {σ : Wd} {x1 : Int32} {K : Int32 → Option ρ} (E : EV p s m args meth c cX6_write 4 RX6 wsX6_write (some .int) D cy (wsC cy h) (adC h)) (hK : ∀ (x2' : Int32), G p l e (headSpec wsX6_write rm_X6_write).room s m args below meth c 4 0 0 D (wsC cy h) (adC h) Q 35 [(2, .int (x2'))] [] σ (K x2')) :
  ∀ (n : Nat) (x2 : Int32) (x3 : Int32), G p l e (headSpec wsX6_write rm_X6_write).room s m args below meth c 4 0 0 D (wsC cy h) (adC h) Q 4 [(0, .ref (h 26)), (1, .int x1), (2, .int x2), (3, .int x3)] [] σ (fl_X6_write_4 N σ x1 K n x2 x3) := by
  intro n
  induction n with
  | zero => intros; exact G.no
  | succ n ih =>
    intro x2 x3
    rw [fl_X6_write_4]
    refine G.iload_n E dX6_write_4 3 rfl rfl ?_
    refine G.iload_n E dX6_write_5 1 rfl rfl ?_
    refine G.icmp_ge (tgt := 35) E dX6_write_6 (by decide) ?_ ?_
    · refine G.loc [2] rfl ?_
      exact hK x2
    · refine G.iload_n E dX6_write_9 3 rfl rfl ?_
      refine G.bipush (v := 9) E dX6_write_10 (by decide) ?_
      refine G.icmp_ge (tgt := 35) E dX6_write_12 (by decide) ?_ ?_
      · refine G.loc [2] rfl ?_
        exact hK x2
      · refine G.iload_n E dX6_write_15 2 rfl rfl ?_
        refine G.bipush (v := 10) E dX6_write_16 (by decide) ?_
        refine G.imul E dX6_write_18 ?_
        refine G.aload_n E dX6_write_19 0 rfl rfl ?_
        refine G.getR (T := TX6) (N := 2) (C := RX6) (q0 := 26) (i := 1) E dX6_write_20 iw_X6_write_6 (wsC_at26 _ _ _) rfl (by decide) rfl (List.mem_of_getElem? (i := 1) rfl) ?_
        refine G.iload_n E dX6_write_23 3 rfl rfl ?_
        refine G.iald (q0 := 27) E dX6_write_24 (wsC_at27 _ _ _) (fun v1 => ?_)
        refine G.iadd E dX6_write_25 ?_
        refine G.iconst (v := 1) E dX6_write_26 (by decide) ?_
        refine G.iadd E dX6_write_27 ?_
        refine G.letI (fun v2 => ?_)
        refine G.istore_n (lv' := [(2, .int v2), (0, .ref (h 26)), (1, .int x1), (3, .int x3)]) E dX6_write_28 rfl (by decide) rfl ?_
        refine G.iinc (v := x3 + 1) (lv' := [(3, .int (x3 + 1)), (2, .int v2), (0, .ref (h 26)), (1, .int x1)]) E dX6_write_29 3 rfl rfl (by decide) rfl ?_
        refine G.goto (tgt := 4) E dX6_write_32 (by decide) ?_
        refine G.loc [2, 3, 1, 0] rfl ?_
        exact ih v2 (x3 + 1)
noncomputable def f_X6_write (N : Nat) (σ : Wd) (a0 : Int32) : Option (Int32) :=
  fl_X6_write_4 N σ a0 (fun v3 =>
    some v3) N 0 0
set_option maxHeartbeats 4000000 in
set_option maxRecDepth 100000 in
theorem c_X6_write {l : Launch} {D : va_G} {cy : Nat → ClassId} {h : Nat → Nat} {N : Nat} {σ : Wd} {a0 : Int32} {r : Int32} (hW : WF (wsC cy h) (adC h)) (hr : f_X6_write N σ a0 = some r) : Con l D cy (wsC cy h) (adC h) yX6_write wsX6_write rm_X6_write 0 0 [.ref (h 26), .int a0] (some (.int r)) σ σ := by
  refine Con.of (ρ := Int32) (lv0 := [(0, .ref (h 26)), (1, .int a0)]) (σ := σ) (fun r : Int32 => some (.int r)) (fun _ => σ) (by decide) rfl rfl (Nat.le_of_ble_eq_true rfl) rfl hW hr (fun p e s m args below meth c E => ?_)
  unfold f_X6_write
  refine G.iconst (v := 0) E dX6_write_0 (by decide) ?_
  refine G.istore_n (lv' := [(2, .int 0), (0, .ref (h 26)), (1, .int a0)]) E dX6_write_1 rfl (by decide) rfl ?_
  refine G.iconst (v := 0) E dX6_write_2 (by decide) ?_
  refine G.istore_n (lv' := [(3, .int 0), (2, .int 0), (0, .ref (h 26)), (1, .int a0)]) E dX6_write_3 rfl (by decide) rfl ?_
  refine G.loc [2, 3, 1, 0] rfl ?_
  refine gl_X6_write_4 E (fun v3 => ?_) N _ _
  refine G.iload_n E dX6_write_35 0 rfl rfl ?_
  exact G.iret E dX6_write_36 rfl rfl
set_option maxHeartbeats 4000000 in
set_option maxRecDepth 100000 in
theorem iw_X6_withoutLoops_6 : ∀ w ∈ u_ws RX6 TX6 2, w ∈ wsX6_withoutLoops := fun _ h => List.mem_cons_of_mem _ (List.mem_append_left _ (List.mem_append_right _ h))
abbrev rm_X6_withoutLoops : Room := { frames := 3, cells := 0, slots := 0, locals := 67 }
noncomputable def fl_X6_withoutLoops_8 (N : Nat) (σ : Wd) (x2 : Int32) (K : Unit → Option (Int32 × Wd)) : Nat → Int32 → Option (Int32 × Wd)
  | 0, _ => none
  | n + 1, x3 =>
    if x2 ≤ x3 then (
      K ())
    else (
      if 9 ≤ x3 then (
        K ())
      else (
        rI σ 27 9 (x3 - 1) fun v3 =>
        rI σ 27 9 x3 fun v4 =>
        bP (f_X4_lowestBetween N σ v3 v4 (-1)) fun v5 =>
        if v5 = (-1) then (
          some ((-1), σ))
        else (
          fl_X6_withoutLoops_8 N σ x2 K n (x3 + 1))))
set_option maxHeartbeats 4000000 in
set_option maxRecDepth 100000 in
theorem gl_X6_withoutLoops_8 {N : Nat} {σ : Wd} {x2 : Int32} {K : Unit → Option (Int32 × Wd)} (E : EV p s m args meth c cX6_withoutLoops 4 RX6 wsX6_withoutLoops (some .int) D cy (wsC cy h) (adC h)) (hK : ∀ (u : Unit), G p l e (headSpec wsX6_withoutLoops rm_X6_withoutLoops).room s m args below meth c 4 0 0 D (wsC cy h) (adC h) (QM D (wsC cy h) (adC h) below args s 0 0 (fun r : Int32 × Wd => some (.int r.1)) (fun r => r.2)) 53 [(0, .ref (h 26)), (2, .int x2)] [] σ (K u)) :
  ∀ (n : Nat) (x3 : Int32), G p l e (headSpec wsX6_withoutLoops rm_X6_withoutLoops).room s m args below meth c 4 0 0 D (wsC cy h) (adC h) (QM D (wsC cy h) (adC h) below args s 0 0 (fun r : Int32 × Wd => some (.int r.1)) (fun r => r.2)) 8 [(0, .ref (h 26)), (2, .int x2), (3, .int x3)] [] σ (fl_X6_withoutLoops_8 N σ x2 K n x3) := by
  intro n
  induction n with
  | zero => intros; exact G.no
  | succ n ih =>
    intro x3
    rw [fl_X6_withoutLoops_8]
    refine G.iload_n E dX6_withoutLoops_8 2 rfl rfl ?_
    refine G.iload_n E dX6_withoutLoops_9 1 rfl rfl ?_
    refine G.icmp_ge (tgt := 53) E dX6_withoutLoops_10 (by decide) ?_ ?_
    · refine G.loc [0, 1] rfl ?_
      exact hK ()
    · refine G.iload_n E dX6_withoutLoops_13 2 rfl rfl ?_
      refine G.bipush (v := 9) E dX6_withoutLoops_14 (by decide) ?_
      refine G.icmp_ge (tgt := 53) E dX6_withoutLoops_16 (by decide) ?_ ?_
      · refine G.loc [0, 1] rfl ?_
        exact hK ()
      · refine G.aload_n E dX6_withoutLoops_19 0 rfl rfl ?_
        refine G.getR (T := TX6) (N := 2) (C := RX6) (q0 := 26) (i := 0) E dX6_withoutLoops_20 iw_X6_withoutLoops_6 (wsC_at26 _ _ _) rfl (by decide) rfl (List.mem_of_getElem? (i := 1) rfl) ?_
        refine G.aload_n E dX6_withoutLoops_23 0 rfl rfl ?_
        refine G.getR (T := TX6) (N := 2) (C := RX6) (q0 := 26) (i := 1) E dX6_withoutLoops_24 iw_X6_withoutLoops_6 (wsC_at26 _ _ _) rfl (by decide) rfl (List.mem_of_getElem? (i := 2) rfl) ?_
        refine G.iload_n E dX6_withoutLoops_27 2 rfl rfl ?_
        refine G.iconst (v := 1) E dX6_withoutLoops_28 (by decide) ?_
        refine G.isub E dX6_withoutLoops_29 ?_
        refine G.iald (q0 := 27) E dX6_withoutLoops_30 (wsC_at27 _ _ _) (fun v3 => ?_)
        refine G.aload_n E dX6_withoutLoops_31 0 rfl rfl ?_
        refine G.getR (T := TX6) (N := 2) (C := RX6) (q0 := 26) (i := 1) E dX6_withoutLoops_32 iw_X6_withoutLoops_6 (wsC_at26 _ _ _) rfl (by decide) rfl (List.mem_of_getElem? (i := 2) rfl) ?_
        refine G.iload_n E dX6_withoutLoops_35 2 rfl rfl ?_
        refine G.iald (q0 := 27) E dX6_withoutLoops_36 (wsC_at27 _ _ _) (fun v4 => ?_)
        refine G.iconst (v := (-1)) E dX6_withoutLoops_37 (by decide) ?_
        refine G.callVi (n := 3) (T := TX4) (N := 8) (C := RX4) (a := h 1) (q0 := 1) (As := [.int v3, .int v4, .int (-1)]) E dX6_withoutLoops_38 (fun _ hv => c_X4_lowestBetween E.wf hv) gX6_withoutLoops_X4_lowestBetween rfl rfl rfl (by decide +kernel) ⟨Nat.le_of_ble_eq_true rfl, Nat.le_of_ble_eq_true rfl⟩ (wsC_at1 _ _ _) rfl rfl (Nat.le_of_ble_eq_true rfl) ⟨Nat.le_of_ble_eq_true rfl, Nat.le_of_ble_eq_true rfl⟩ (fun v5 => ?_)
        refine G.iconst (v := (-1)) E dX6_withoutLoops_41 (by decide) ?_
        refine G.icmp_ne (tgt := 47) E dX6_withoutLoops_42 (by decide) ?_ ?_
        · refine G.iconst (v := (-1)) E dX6_withoutLoops_45 (by decide) ?_
          exact G.iret E dX6_withoutLoops_46 rfl rfl
        · refine G.iinc (v := x3 + 1) (lv' := [(3, .int (x3 + 1)), (0, .ref (h 26)), (2, .int x2)]) E dX6_withoutLoops_47 2 rfl rfl (by decide) rfl ?_
          refine G.goto (tgt := 8) E dX6_withoutLoops_50 (by decide) ?_
          refine G.loc [1, 2, 0] rfl ?_
          exact ih (x3 + 1)
noncomputable def f_X6_withoutLoops (N : Nat) (σ : Wd) (a0 : Int32) : Option (Int32 × Wd) :=
  bS (f_X6_read N σ a0) fun v1 s2 =>
  fl_X6_withoutLoops_8 N s2 v1 (fun (_ : Unit) =>
    bS (f_X6_erase N s2 v1) fun v6 s7 =>
    bP (f_X6_write N s7 v6) fun v8 =>
    some (v8, s7)) N 1
set_option maxHeartbeats 4000000 in
set_option maxRecDepth 100000 in
theorem c_X6_withoutLoops {l : Launch} {D : va_G} {cy : Nat → ClassId} {h : Nat → Nat} {N : Nat} {σ : Wd} {a0 : Int32} {r : Int32} {σ1 : Wd} (hW : WF (wsC cy h) (adC h)) (hr : f_X6_withoutLoops N σ a0 = some (r, σ1)) : Con l D cy (wsC cy h) (adC h) yX6_withoutLoops wsX6_withoutLoops rm_X6_withoutLoops 0 0 [.ref (h 26), .int a0] (some (.int r)) σ σ1 := by
  refine Con.of (ρ := Int32 × Wd) (lv0 := [(0, .ref (h 26)), (1, .int a0)]) (σ := σ) (fun r : Int32 × Wd => some (.int r.1)) (fun r => r.2) (by decide) rfl rfl (Nat.le_of_ble_eq_true rfl) rfl hW hr (fun p e s m args below meth c E => ?_)
  unfold f_X6_withoutLoops
  refine G.aload_n E dX6_withoutLoops_0 0 rfl rfl ?_
  refine G.iload_n E dX6_withoutLoops_1 1 rfl rfl ?_
  refine G.callVis (n := 1) (T := TX6) (N := 2) (C := RX6) (a := h 26) (q0 := 26) (As := [.int a0]) E dX6_withoutLoops_2 (fun _ _ hv => c_X6_read E.wf hv) gX6_withoutLoops_X6_read rfl rfl rfl (by decide +kernel) ⟨Nat.le_of_ble_eq_true rfl, Nat.le_of_ble_eq_true rfl⟩ (wsC_at26 _ _ _) rfl rfl (Nat.le_of_ble_eq_true rfl) ⟨Nat.le_of_ble_eq_true rfl, Nat.le_of_ble_eq_true rfl⟩ (fun v1 s2 => ?_)
  refine G.istore_n (lv' := [(2, .int v1), (0, .ref (h 26)), (1, .int a0)]) E dX6_withoutLoops_5 rfl (by decide) rfl ?_
  refine G.iconst (v := 1) E dX6_withoutLoops_6 (by decide) ?_
  refine G.istore_n (lv' := [(3, .int 1), (2, .int v1), (0, .ref (h 26)), (1, .int a0)]) E dX6_withoutLoops_7 rfl (by decide) rfl ?_
  refine G.loc [2, 1, 0] rfl ?_
  refine gl_X6_withoutLoops_8 E (fun _ => ?_) N _
  refine G.aload_n E dX6_withoutLoops_53 0 rfl rfl ?_
  refine G.aload_n E dX6_withoutLoops_54 0 rfl rfl ?_
  refine G.iload_n E dX6_withoutLoops_55 1 rfl rfl ?_
  refine G.callVis (n := 1) (T := TX6) (N := 2) (C := RX6) (a := h 26) (q0 := 26) (As := [.int v1]) E dX6_withoutLoops_56 (fun _ _ hv => c_X6_erase E.wf hv) gX6_withoutLoops_X6_erase rfl rfl rfl (by decide +kernel) ⟨Nat.le_of_ble_eq_true rfl, Nat.le_of_ble_eq_true rfl⟩ (wsC_at26 _ _ _) rfl rfl (Nat.le_of_ble_eq_true rfl) ⟨Nat.le_of_ble_eq_true rfl, Nat.le_of_ble_eq_true rfl⟩ (fun v6 s7 => ?_)
  refine G.callVi (n := 1) (T := TX6) (N := 2) (C := RX6) (a := h 26) (q0 := 26) (As := [.int v6]) E dX6_withoutLoops_59 (fun _ hv => c_X6_write E.wf hv) gX6_withoutLoops_X6_write rfl rfl rfl (by decide +kernel) ⟨Nat.le_of_ble_eq_true rfl, Nat.le_of_ble_eq_true rfl⟩ (wsC_at26 _ _ _) rfl rfl (Nat.le_of_ble_eq_true rfl) ⟨Nat.le_of_ble_eq_true rfl, Nat.le_of_ble_eq_true rfl⟩ (fun v8 => ?_)
  exact G.iret E dX6_withoutLoops_62 rfl rfl
set_option maxHeartbeats 4000000 in
set_option maxRecDepth 100000 in
theorem iw_X7_needEdge_7 : ∀ w ∈ u_ws RX7 TX7 7, w ∈ wsX7_needEdge := fun _ h => List.mem_cons_of_mem _ (List.mem_append_left _ (List.mem_append_left _ (List.mem_append_right _ h)))
set_option maxHeartbeats 4000000 in
set_option maxRecDepth 100000 in
theorem ia_X7_needEdge_187 : ∀ w ∈ (vx_atS RX7 187 "java/lang/IndexOutOfBoundsException" ["java/lang/RuntimeException", "java/lang/Exception"]).filter goodWord, w ∈ wsX7_needEdge := fun w h => List.mem_cons_of_mem _ (List.mem_append_right _ h)
abbrev rm_X7_needEdge : Room := { frames := 8, cells := 1, slots := 6, locals := 120 }
noncomputable def f_X7_needEdge (N : Nat) (σ : Wd) (a0 : Int32) : Option ((Nat ⊕ Unit) × Wd) :=
  bP (f_X4_hasEdge N σ a0) fun v1 =>
  if v1 = 0 then (
    some (.inl 1, σ))
  else (
    some (.inr (), σ))
set_option maxHeartbeats 4000000 in
set_option maxRecDepth 100000 in
theorem c_X7_needEdge {l : Launch} {D : va_G} {cy : Nat → ClassId} {h : Nat → Nat} {N : Nat} {σ : Wd} {a0 : Int32} {r : (Nat ⊕ Unit) × Wd} (hW : WF (wsC cy h) (adC h)) (hfl : l.stackTraces = false) (hr : f_X7_needEdge N σ a0 = some r) : ConX l D cy (wsC cy h) (adC h) yX7_needEdge wsX7_needEdge rm_X7_needEdge 1 6 [.ref (h 0), .int a0] (ooV r) σ r.2 := by
  refine ConX.of (lv0 := [(0, .ref (h 0)), (1, .int a0)]) (σ := σ) ooV (fun r => r.2) (by decide) rfl rfl (Nat.le_of_ble_eq_true rfl) rfl hW hfl hr (fun p e s m args below meth c E EX0 => ?_)
  unfold f_X7_needEdge
  refine G.aload_n E dX7_needEdge_0 0 rfl rfl ?_
  refine G.getR (T := TX7) (N := 7) (C := RX7) (q0 := 0) (i := 0) E dX7_needEdge_1 iw_X7_needEdge_7 (wsC_at0 _ _ _) rfl (by decide) rfl (List.mem_of_getElem? (i := 3) rfl) ?_
  refine G.iload_n E dX7_needEdge_4 1 rfl rfl ?_
  refine G.callVi (n := 1) (T := TX4) (N := 8) (C := RX4) (a := h 1) (q0 := 1) (As := [.int a0]) E dX7_needEdge_5 (fun _ hv => c_X4_hasEdge E.wf hv) gX7_needEdge_X4_hasEdge rfl rfl rfl (by decide +kernel) ⟨Nat.le_of_ble_eq_true rfl, Nat.le_of_ble_eq_true rfl⟩ (wsC_at1 _ _ _) rfl rfl (Nat.le_of_ble_eq_true rfl) ⟨Nat.le_of_ble_eq_true rfl, Nat.le_of_ble_eq_true rfl⟩ (fun v1 => ?_)
  refine G.if_ne (tgt := 21) E dX7_needEdge_8 (by decide) ?_ ?_
  · exact G.throwS (q := 1) (text := "there is no such edge") (cls := "java/lang/IndexOutOfBoundsException") (names := ["java/lang/RuntimeException", "java/lang/Exception"]) E EX0 (by decide +kernel) (by decide +kernel) (List.mem_of_getElem? (i := 1) rfl) (List.mem_of_getElem? (i := 2) rfl) (by decide +kernel) ia_X7_needEdge_187 atg_187 (otw_183_187) dX7_needEdge_11 dX7_needEdge_14 dX7_needEdge_15 dX7_needEdge_17 dX7_needEdge_20 ⟨Nat.le_of_ble_eq_true rfl, Nat.le_of_ble_eq_true rfl⟩ ⟨Nat.le_of_ble_eq_true rfl, Nat.le_of_ble_eq_true rfl⟩ rfl rfl rfl (Nat.le_of_ble_eq_true rfl) (Nat.le_of_ble_eq_true rfl)
  · exact G.x_vret E dX7_needEdge_21 rfl (Nat.le_of_ble_eq_true rfl) (Nat.le_of_ble_eq_true rfl) rfl rfl
set_option maxHeartbeats 4000000 in
set_option maxRecDepth 100000 in
theorem iw_X7_upperOfAnswer_4 : ∀ w ∈ u_ws RX4 TX4 8, w ∈ wsX7_upperOfAnswer := fun _ h => List.mem_cons_of_mem _ (List.mem_append_left _ (List.mem_append_right _ h))
set_option maxHeartbeats 4000000 in
set_option maxRecDepth 100000 in
theorem iw_X7_upperOfAnswer_7 : ∀ w ∈ u_ws RX7 TX7 7, w ∈ wsX7_upperOfAnswer := fun _ h => List.mem_cons_of_mem _ (List.mem_append_left _ (List.mem_append_left _ (List.mem_append_right _ h)))
abbrev rm_X7_upperOfAnswer : Room := { frames := 14, cells := 0, slots := 0, locals := 358 }
noncomputable def f_X7_upperOfAnswer (N : Nat) (σ : Wd) (a0 : Int32) (a1 : Int32) : Option (Int64 × Wd) :=
  gI σ 1 1 fun v1 =>
  bP (f_X7_setOf N a0) fun v2 =>
  bS (f_X0_countWith N σ (v1 &&& (v2 ^^^ (-1))) a0 a1) fun v3 s4 =>
  some (v3, s4)
set_option maxHeartbeats 4000000 in
set_option maxRecDepth 100000 in
theorem c_X7_upperOfAnswer {l : Launch} {D : va_G} {cy : Nat → ClassId} {h : Nat → Nat} {N : Nat} {σ : Wd} {a0 : Int32} {a1 : Int32} {r : Int64} {σ1 : Wd} (hW : WF (wsC cy h) (adC h)) (hr : f_X7_upperOfAnswer N σ a0 a1 = some (r, σ1)) : Con l D cy (wsC cy h) (adC h) yX7_upperOfAnswer wsX7_upperOfAnswer rm_X7_upperOfAnswer 0 0 [.ref (h 0), .int a0, .int a1] (some (.long r)) σ σ1 := by
  refine Con.of (ρ := Int64 × Wd) (lv0 := [(0, .ref (h 0)), (1, .int a0), (2, .int a1)]) (σ := σ) (fun r : Int64 × Wd => some (.long r.1)) (fun r => r.2) (by decide) rfl rfl (Nat.le_of_ble_eq_true rfl) rfl hW hr (fun p e s m args below meth c E => ?_)
  unfold f_X7_upperOfAnswer
  refine G.aload_n E dX7_upperOfAnswer_0 0 rfl rfl ?_
  refine G.getR (T := TX7) (N := 7) (C := RX7) (q0 := 0) (i := 1) E dX7_upperOfAnswer_1 iw_X7_upperOfAnswer_7 (wsC_at0 _ _ _) rfl (by decide) rfl (List.mem_of_getElem? (i := 1) rfl) ?_
  refine G.aload_n E dX7_upperOfAnswer_4 0 rfl rfl ?_
  refine G.getR (T := TX7) (N := 7) (C := RX7) (q0 := 0) (i := 0) E dX7_upperOfAnswer_5 iw_X7_upperOfAnswer_7 (wsC_at0 _ _ _) rfl (by decide) rfl (List.mem_of_getElem? (i := 2) rfl) ?_
  refine G.getI (T := TX4) (N := 8) (C := RX4) (q0 := 1) (i := 1) E dX7_upperOfAnswer_8 iw_X7_upperOfAnswer_4 (wsC_at1 _ _ _) rfl (by decide) rfl (List.mem_of_getElem? (i := 3) rfl) (fun v1 => ?_)
  refine G.iload_n E dX7_upperOfAnswer_11 1 rfl rfl ?_
  refine G.callSi (n := 1) (As := [.int a0]) E dX7_upperOfAnswer_12 (fun _ hv => c_X7_setOf E.wf hv) gX7_upperOfAnswer_X7_setOf rfl rfl rfl (by decide +kernel) ⟨Nat.le_of_ble_eq_true rfl, Nat.le_of_ble_eq_true rfl⟩ rfl (Nat.le_of_ble_eq_true rfl) ⟨Nat.le_of_ble_eq_true rfl, Nat.le_of_ble_eq_true rfl⟩ (fun v2 => ?_)
  refine G.iconst (v := (-1)) E dX7_upperOfAnswer_15 (by decide) ?_
  refine G.ixor E dX7_upperOfAnswer_16 ?_
  refine G.iand E dX7_upperOfAnswer_17 ?_
  refine G.iload_n E dX7_upperOfAnswer_18 1 rfl rfl ?_
  refine G.iload_n E dX7_upperOfAnswer_19 2 rfl rfl ?_
  refine G.callVls (n := 3) (T := TX0) (N := 9) (C := RX0) (a := h 5) (q0 := 5) (As := [.int (v1 &&& (v2 ^^^ (-1))), .int a0, .int a1]) E dX7_upperOfAnswer_20 (fun _ _ hv => c_X0_countWith E.wf hv) gX7_upperOfAnswer_X0_countWith rfl rfl rfl (by decide +kernel) ⟨Nat.le_of_ble_eq_true rfl, Nat.le_of_ble_eq_true rfl⟩ (wsC_at5 _ _ _) rfl rfl (Nat.le_of_ble_eq_true rfl) ⟨Nat.le_of_ble_eq_true rfl, Nat.le_of_ble_eq_true rfl⟩ (fun v3 s4 => ?_)
  exact G.lret E dX7_upperOfAnswer_23 rfl rfl
set_option maxHeartbeats 4000000 in
set_option maxRecDepth 100000 in
theorem iw_X7_countRest_4 : ∀ w ∈ u_ws RX4 TX4 8, w ∈ wsX7_countRest := fun _ h => List.mem_cons_of_mem _ (List.mem_append_left _ (List.mem_append_right _ h))
set_option maxHeartbeats 4000000 in
set_option maxRecDepth 100000 in
theorem iw_X7_countRest_7 : ∀ w ∈ u_ws RX7 TX7 7, w ∈ wsX7_countRest := fun _ h => List.mem_cons_of_mem _ (List.mem_append_left _ (List.mem_append_left _ (List.mem_append_right _ h)))
abbrev rm_X7_countRest : Room := { frames := 15, cells := 0, slots := 0, locals := 379 }
noncomputable def f_X7_countRest (N : Nat) (σ : Wd) : Option (Int64 × Wd) :=
  gI σ 1 1 fun v1 =>
  bS (f_X0_count N σ v1) fun v2 s3 =>
  some (v2, s3)
set_option maxHeartbeats 4000000 in
set_option maxRecDepth 100000 in
theorem c_X7_countRest {l : Launch} {D : va_G} {cy : Nat → ClassId} {h : Nat → Nat} {N : Nat} {σ : Wd} {r : Int64} {σ1 : Wd} (hW : WF (wsC cy h) (adC h)) (hr : f_X7_countRest N σ = some (r, σ1)) : Con l D cy (wsC cy h) (adC h) yX7_countRest wsX7_countRest rm_X7_countRest 0 0 [.ref (h 0)] (some (.long r)) σ σ1 := by
  refine Con.of (ρ := Int64 × Wd) (lv0 := [(0, .ref (h 0))]) (σ := σ) (fun r : Int64 × Wd => some (.long r.1)) (fun r => r.2) (by decide) rfl rfl (Nat.le_of_ble_eq_true rfl) rfl hW hr (fun p e s m args below meth c E => ?_)
  unfold f_X7_countRest
  refine G.aload_n E dX7_countRest_0 0 rfl rfl ?_
  refine G.getR (T := TX7) (N := 7) (C := RX7) (q0 := 0) (i := 1) E dX7_countRest_1 iw_X7_countRest_7 (wsC_at0 _ _ _) rfl (by decide) rfl (List.mem_of_getElem? (i := 1) rfl) ?_
  refine G.aload_n E dX7_countRest_4 0 rfl rfl ?_
  refine G.getR (T := TX7) (N := 7) (C := RX7) (q0 := 0) (i := 0) E dX7_countRest_5 iw_X7_countRest_7 (wsC_at0 _ _ _) rfl (by decide) rfl (List.mem_of_getElem? (i := 2) rfl) ?_
  refine G.getI (T := TX4) (N := 8) (C := RX4) (q0 := 1) (i := 1) E dX7_countRest_8 iw_X7_countRest_4 (wsC_at1 _ _ _) rfl (by decide) rfl (List.mem_of_getElem? (i := 3) rfl) (fun v1 => ?_)
  refine G.callVls (n := 1) (T := TX0) (N := 9) (C := RX0) (a := h 5) (q0 := 5) (As := [.int v1]) E dX7_countRest_11 (fun _ _ hv => c_X0_count E.wf hv) gX7_countRest_X0_count rfl rfl rfl (by decide +kernel) ⟨Nat.le_of_ble_eq_true rfl, Nat.le_of_ble_eq_true rfl⟩ (wsC_at5 _ _ _) rfl rfl (Nat.le_of_ble_eq_true rfl) ⟨Nat.le_of_ble_eq_true rfl, Nat.le_of_ble_eq_true rfl⟩ (fun v2 s3 => ?_)
  exact G.lret E dX7_countRest_14 rfl rfl
abbrev rm_X7_greatestDivisor : Room := { frames := 0, cells := 0, slots := 0, locals := 0 }
noncomputable def fl_X7_greatestDivisor_9 {ρ : Type} (N : Nat) (K : Int64 → Option ρ) : Nat → Int64 → Int64 → Int32 → Option ρ
  | 0, _, _, _ => none
  | n + 1, x4, x6, x8 =>
    if 1000 ≤ x8 then (
      K x4)
    else (
      if (lg_cmp x6 0) = 0 then (
        K x4)
      else (
        mL x4 x6 fun v1 =>
        fl_X7_greatestDivisor_9 N K n x6 v1 (x8 + 1)))
set_option maxHeartbeats 4000000 in
set_option maxRecDepth 100000 in
theorem gl_X7_greatestDivisor_9 {ρ : Type} {Q : ρ → State → Prop} {N : Nat} {σ : Wd} {K : Int64 → Option ρ} (E : EV p s m args meth c cX7_greatestDivisor 11 RX7 wsX7_greatestDivisor (some .long) D cy (wsC cy h) (adC h)) (hK : ∀ (x4' : Int64), G p l e (headSpec wsX7_greatestDivisor rm_X7_greatestDivisor).room s m args below meth c 11 0 0 D (wsC cy h) (adC h) Q 45 [(4, .long (x4'))] [] σ (K x4')) :
  ∀ (n : Nat) (x4 : Int64) (x6 : Int64) (x8 : Int32), G p l e (headSpec wsX7_greatestDivisor rm_X7_greatestDivisor).room s m args below meth c 11 0 0 D (wsC cy h) (adC h) Q 9 [(4, .long x4), (6, .long x6), (8, .int x8)] [] σ (fl_X7_greatestDivisor_9 N K n x4 x6 x8) := by
  intro n
  induction n with
  | zero => intros; exact G.no
  | succ n ih =>
    intro x4 x6 x8
    rw [fl_X7_greatestDivisor_9]
    refine G.iload E dX7_greatestDivisor_9 2 rfl ?_
    refine G.sipush (v := 1000) E dX7_greatestDivisor_11 (by decide) ?_
    refine G.icmp_ge (tgt := 45) E dX7_greatestDivisor_14 (by decide) ?_ ?_
    · refine G.loc [0] rfl ?_
      exact hK x4
    · refine G.lload E dX7_greatestDivisor_17 1 rfl ?_
      refine G.lconst (v := 0) E dX7_greatestDivisor_19 (by decide) ?_
      refine G.lcmp E dX7_greatestDivisor_20 ?_
      refine G.if_eq (tgt := 45) E dX7_greatestDivisor_21 (by decide) ?_ ?_
      · refine G.loc [0] rfl ?_
        exact hK x4
      · refine G.lload E dX7_greatestDivisor_24 0 rfl ?_
        refine G.lload E dX7_greatestDivisor_26 1 rfl ?_
        refine G.lrem E dX7_greatestDivisor_28 (fun v1 => ?_)
        refine G.lstore (lv' := [(9, .long v1), (4, .long x4), (6, .long x6), (8, .int x8)]) E dX7_greatestDivisor_29 (by decide) rfl ?_
        refine G.lload E dX7_greatestDivisor_31 2 rfl ?_
        refine G.lstore (lv' := [(4, .long x6), (9, .long v1), (6, .long x6), (8, .int x8)]) E dX7_greatestDivisor_33 (by decide) rfl ?_
        refine G.lload E dX7_greatestDivisor_35 1 rfl ?_
        refine G.lstore (lv' := [(6, .long v1), (4, .long x6), (9, .long v1), (8, .int x8)]) E dX7_greatestDivisor_37 (by decide) rfl ?_
        refine G.iinc (v := x8 + 1) (lv' := [(8, .int (x8 + 1)), (6, .long v1), (4, .long x6), (9, .long v1)]) E dX7_greatestDivisor_39 3 rfl rfl (by decide) rfl ?_
        refine G.goto (tgt := 9) E dX7_greatestDivisor_42 (by decide) ?_
        refine G.loc [2, 1, 0] rfl ?_
        exact ih x6 v1 (x8 + 1)
noncomputable def f_X7_greatestDivisor (N : Nat) (a0 : Int64) (a1 : Int64) : Option (Int64) :=
  fl_X7_greatestDivisor_9 N (fun v2 =>
    some v2) N a0 a1 0
set_option maxHeartbeats 4000000 in
set_option maxRecDepth 100000 in
theorem c_X7_greatestDivisor {l : Launch} {D : va_G} {cy : Nat → ClassId} {h : Nat → Nat} {N : Nat} {σ : Wd} {a0 : Int64} {a1 : Int64} {r : Int64} (hW : WF (wsC cy h) (adC h)) (hr : f_X7_greatestDivisor N a0 a1 = some r) : Con l D cy (wsC cy h) (adC h) yX7_greatestDivisor wsX7_greatestDivisor rm_X7_greatestDivisor 0 0 [.long a0, .long a1] (some (.long r)) σ σ := by
  refine Con.of (ρ := Int64) (lv0 := [(0, .long a0), (2, .long a1)]) (σ := σ) (fun r : Int64 => some (.long r)) (fun _ => σ) (by decide) rfl rfl (Nat.le_of_ble_eq_true rfl) rfl hW hr (fun p e s m args below meth c E => ?_)
  unfold f_X7_greatestDivisor
  refine G.lload_n E dX7_greatestDivisor_0 0 rfl rfl ?_
  refine G.lstore (lv' := [(4, .long a0), (0, .long a0), (2, .long a1)]) E dX7_greatestDivisor_1 (by decide) rfl ?_
  refine G.lload_n E dX7_greatestDivisor_3 2 rfl rfl ?_
  refine G.lstore (lv' := [(6, .long a1), (4, .long a0), (0, .long a0), (2, .long a1)]) E dX7_greatestDivisor_4 (by decide) rfl ?_
  refine G.iconst (v := 0) E dX7_greatestDivisor_6 (by decide) ?_
  refine G.istore (lv' := [(8, .int 0), (6, .long a1), (4, .long a0), (0, .long a0), (2, .long a1)]) E dX7_greatestDivisor_7 (by decide) rfl ?_
  refine G.loc [2, 1, 0] rfl ?_
  refine gl_X7_greatestDivisor_9 E (fun v2 => ?_) N _ _ _
  refine G.lload E dX7_greatestDivisor_45 0 rfl ?_
  exact G.lret E dX7_greatestDivisor_47 rfl rfl
abbrev rm_X7_partOf : Room := { frames := 1, cells := 0, slots := 0, locals := 30 }
noncomputable def f_X7_partOf (N : Nat) (a0 : Int64) (a1 : Int64) (a2 : Int32) : Option (Int64) :=
  lL (absL a0) fun v1 =>
  bP (f_X7_greatestDivisor N a1 v1) fun v2 =>
  if (lg_cmp a1 0) = 0 then (
    some 0)
  else (
    if (lg_cmp v2 0) = 0 then (
      some 0)
    else (
      if a2 = 0 then (
        dL a0 v2 fun v3 =>
        some v3)
      else (
        dL a1 v2 fun v4 =>
        some v4)))
set_option maxHeartbeats 4000000 in
set_option maxRecDepth 100000 in
theorem c_X7_partOf {l : Launch} {D : va_G} {cy : Nat → ClassId} {h : Nat → Nat} {N : Nat} {σ : Wd} {a0 : Int64} {a1 : Int64} {a2 : Int32} {r : Int64} (hW : WF (wsC cy h) (adC h)) (hr : f_X7_partOf N a0 a1 a2 = some r) : Con l D cy (wsC cy h) (adC h) yX7_partOf wsX7_partOf rm_X7_partOf 0 0 [.long a0, .long a1, .int a2] (some (.long r)) σ σ := by
  refine Con.of (ρ := Int64) (lv0 := [(0, .long a0), (2, .long a1), (4, .int a2)]) (σ := σ) (fun r : Int64 => some (.long r)) (fun _ => σ) (by decide) rfl rfl (Nat.le_of_ble_eq_true rfl) rfl hW hr (fun p e s m args below meth c E => ?_)
  unfold f_X7_partOf
  refine G.lload_n E dX7_partOf_0 1 rfl rfl ?_
  refine G.lload_n E dX7_partOf_1 0 rfl rfl ?_
  refine G.mabs E dX7_partOf_2 (List.mem_of_getElem? (i := 1) rfl) (List.mem_of_getElem? (i := 2) rfl) (List.mem_of_getElem? (i := 3) rfl) (List.mem_of_getElem? (i := 4) rfl) ⟨Nat.le_of_ble_eq_true rfl, Nat.le_of_ble_eq_true rfl⟩ ⟨Nat.le_of_ble_eq_true rfl, Nat.le_of_ble_eq_true rfl⟩ (fun v1 => ?_)
  refine G.callSl (n := 2) (As := [.long a1, .long v1]) E dX7_partOf_5 (fun _ hv => c_X7_greatestDivisor E.wf hv) gX7_partOf_X7_greatestDivisor rfl rfl rfl (by decide +kernel) ⟨Nat.le_of_ble_eq_true rfl, Nat.le_of_ble_eq_true rfl⟩ rfl (Nat.le_of_ble_eq_true rfl) ⟨Nat.le_of_ble_eq_true rfl, Nat.le_of_ble_eq_true rfl⟩ (fun v2 => ?_)
  refine G.lstore (lv' := [(5, .long v2), (0, .long a0), (2, .long a1), (4, .int a2)]) E dX7_partOf_8 (by decide) rfl ?_
  refine G.lload_n E dX7_partOf_10 2 rfl rfl ?_
  refine G.lconst (v := 0) E dX7_partOf_11 (by decide) ?_
  refine G.lcmp E dX7_partOf_12 ?_
  refine G.if_eq (tgt := 23) E dX7_partOf_13 (by decide) ?_ ?_
  · refine G.lconst (v := 0) E dX7_partOf_23 (by decide) ?_
    exact G.lret E dX7_partOf_24 rfl rfl
  · refine G.lload E dX7_partOf_16 0 rfl ?_
    refine G.lconst (v := 0) E dX7_partOf_18 (by decide) ?_
    refine G.lcmp E dX7_partOf_19 ?_
    refine G.if_ne (tgt := 25) E dX7_partOf_20 (by decide) ?_ ?_
    · refine G.lconst (v := 0) E dX7_partOf_23 (by decide) ?_
      exact G.lret E dX7_partOf_24 rfl rfl
    · refine G.iload E dX7_partOf_25 3 rfl ?_
      refine G.if_eq (tgt := 34) E dX7_partOf_27 (by decide) ?_ ?_
      · refine G.lload_n E dX7_partOf_34 1 rfl rfl ?_
        refine G.lload E dX7_partOf_35 0 rfl ?_
        refine G.ldiv E dX7_partOf_37 (fun v3 => ?_)
        exact G.lret E dX7_partOf_38 rfl rfl
      · refine G.lload_n E dX7_partOf_30 2 rfl rfl ?_
        refine G.goto (tgt := 35) E dX7_partOf_31 (by decide) ?_
        refine G.lload E dX7_partOf_35 0 rfl ?_
        refine G.ldiv E dX7_partOf_37 (fun v4 => ?_)
        exact G.lret E dX7_partOf_38 rfl rfl
set_option maxHeartbeats 4000000 in
set_option maxRecDepth 100000 in
theorem ia_X7_answer_87 : ∀ w ∈ (vx_atS RX7 87 "java/lang/IllegalArgumentException" ["java/lang/RuntimeException", "java/lang/Exception"]).filter goodWord, w ∈ wsX7_answer := fun w h => List.mem_cons_of_mem _ (List.mem_append_left _ (List.mem_append_right _ h))
abbrev rm_X7_answer : Room := { frames := 16, cells := 3, slots := 18, locals := 399 }
noncomputable def f_X7_answer (N : Nat) (σ : Wd) (a0 : Int32) (a1 : Int32) (a2 : Int32) : Option ((Nat ⊕ Int64) × Wd) :=
  bX (f_X7_needEdge N σ a0) fun v1 s2 =>
  bX (f_X7_needEdge N s2 a1) fun v3 s4 =>
  if a0 = a1 then (
    some (.inl 2, s4))
  else (
    bS (f_X7_upperOfAnswer N s4 a0 a1) fun v5 s6 =>
    bS (f_X7_countRest N s6) fun v7 s8 =>
    bP (f_X7_partOf N v5 v7 a2) fun v9 =>
    some (.inr v9, s8))
set_option maxHeartbeats 4000000 in
set_option maxRecDepth 100000 in
theorem c_X7_answer {l : Launch} {D : va_G} {cy : Nat → ClassId} {h : Nat → Nat} {N : Nat} {σ : Wd} {a0 : Int32} {a1 : Int32} {a2 : Int32} {r : (Nat ⊕ Int64) × Wd} (hW : WF (wsC cy h) (adC h)) (hfl : l.stackTraces = false) (hr : f_X7_answer N σ a0 a1 a2 = some r) : ConX l D cy (wsC cy h) (adC h) yX7_answer wsX7_answer rm_X7_answer 3 18 [.ref (h 0), .int a0, .int a1, .int a2] (ooL r) σ r.2 := by
  refine ConX.of (lv0 := [(0, .ref (h 0)), (1, .int a0), (2, .int a1), (3, .int a2)]) (σ := σ) ooL (fun r => r.2) (by decide) rfl rfl (Nat.le_of_ble_eq_true rfl) rfl hW hfl hr (fun p e s m args below meth c E EX0 => ?_)
  unfold f_X7_answer
  refine G.aload_n E dX7_answer_0 0 rfl rfl ?_
  refine G.iload_n E dX7_answer_1 1 rfl rfl ?_
  refine G.callXv (n := 1) (T := TX7) (N := 7) (C := RX7) (a := h 0) (q0 := 0) (As := [.int a0]) E EX0 dX7_answer_2 (fun _ hv => c_X7_needEdge E.wf EX0.1 hv) gX7_answer_X7_needEdge rfl rfl rfl (by decide +kernel) ⟨(Nat.le_of_ble_eq_true rfl), (Nat.le_of_ble_eq_true rfl)⟩ (wsC_at0 _ _ _) rfl rfl (Nat.le_of_ble_eq_true rfl) ⟨(Nat.le_of_ble_eq_true rfl), (Nat.le_of_ble_eq_true rfl)⟩ (Nat.le_of_ble_eq_true rfl) (Nat.le_of_ble_eq_true rfl) (fun _ _ => rfl) (fun v1 s2 => ?_)
  refine G.aload_n E dX7_answer_5 0 rfl rfl ?_
  refine G.iload_n E dX7_answer_6 2 rfl rfl ?_
  refine G.callXv (n := 1) (T := TX7) (N := 7) (C := RX7) (a := h 0) (q0 := 0) (As := [.int a1]) E EX0 dX7_answer_7 (fun _ hv => c_X7_needEdge E.wf EX0.1 hv) gX7_answer_X7_needEdge rfl rfl rfl (by decide +kernel) ⟨(Nat.le_of_ble_eq_true rfl), (Nat.le_of_ble_eq_true rfl)⟩ (wsC_at0 _ _ _) rfl rfl (Nat.le_of_ble_eq_true rfl) ⟨(Nat.le_of_ble_eq_true rfl), (Nat.le_of_ble_eq_true rfl)⟩ (Nat.le_of_ble_eq_true rfl) (Nat.le_of_ble_eq_true rfl) (fun _ _ => rfl) (fun v3 s4 => ?_)
  refine G.iload_n E dX7_answer_10 1 rfl rfl ?_
  refine G.iload_n E dX7_answer_11 2 rfl rfl ?_
  refine G.icmp_ne (tgt := 25) E dX7_answer_12 (by decide) ?_ ?_
  · exact G.throwS (q := 2) (text := "the edges are the same") (cls := "java/lang/IllegalArgumentException") (names := ["java/lang/RuntimeException", "java/lang/Exception"]) E EX0 (by decide +kernel) (by decide +kernel) (List.mem_of_getElem? (i := 1) rfl) (List.mem_of_getElem? (i := 2) rfl) (by decide +kernel) ia_X7_answer_87 atg_87 (otw_83_87) dX7_answer_15 dX7_answer_18 dX7_answer_19 dX7_answer_21 dX7_answer_24 ⟨Nat.le_of_ble_eq_true rfl, Nat.le_of_ble_eq_true rfl⟩ ⟨Nat.le_of_ble_eq_true rfl, Nat.le_of_ble_eq_true rfl⟩ rfl rfl rfl (Nat.le_of_ble_eq_true rfl) (Nat.le_of_ble_eq_true rfl)
  · refine G.aload_n E dX7_answer_25 0 rfl rfl ?_
    refine G.iload_n E dX7_answer_26 1 rfl rfl ?_
    refine G.iload_n E dX7_answer_27 2 rfl rfl ?_
    refine G.callVls (n := 2) (T := TX7) (N := 7) (C := RX7) (a := h 0) (q0 := 0) (As := [.int a0, .int a1]) E dX7_answer_28 (fun _ _ hv => c_X7_upperOfAnswer E.wf hv) gX7_answer_X7_upperOfAnswer rfl rfl rfl (by decide +kernel) ⟨Nat.le_of_ble_eq_true rfl, Nat.le_of_ble_eq_true rfl⟩ (wsC_at0 _ _ _) rfl rfl (Nat.le_of_ble_eq_true rfl) ⟨Nat.le_of_ble_eq_true rfl, Nat.le_of_ble_eq_true rfl⟩ (fun v5 s6 => ?_)
    refine G.aload_n E dX7_answer_31 0 rfl rfl ?_
    refine G.callVls (n := 0) (T := TX7) (N := 7) (C := RX7) (a := h 0) (q0 := 0) (As := []) E dX7_answer_32 (fun _ _ hv => c_X7_countRest E.wf hv) gX7_answer_X7_countRest rfl rfl rfl (by decide +kernel) ⟨Nat.le_of_ble_eq_true rfl, Nat.le_of_ble_eq_true rfl⟩ (wsC_at0 _ _ _) rfl rfl (Nat.le_of_ble_eq_true rfl) ⟨Nat.le_of_ble_eq_true rfl, Nat.le_of_ble_eq_true rfl⟩ (fun v7 s8 => ?_)
    refine G.iload_n E dX7_answer_35 3 rfl rfl ?_
    refine G.callSl (n := 3) (As := [.long v5, .long v7, .int a2]) E dX7_answer_36 (fun _ hv => c_X7_partOf E.wf hv) gX7_answer_X7_partOf rfl rfl rfl (by decide +kernel) ⟨Nat.le_of_ble_eq_true rfl, Nat.le_of_ble_eq_true rfl⟩ rfl (Nat.le_of_ble_eq_true rfl) ⟨Nat.le_of_ble_eq_true rfl, Nat.le_of_ble_eq_true rfl⟩ (fun v9 => ?_)
    exact G.x_lret E dX7_answer_39 rfl (Nat.le_of_ble_eq_true rfl) (Nat.le_of_ble_eq_true rfl) rfl rfl
set_option maxHeartbeats 4000000 in
set_option maxRecDepth 100000 in
theorem iw_X7_needNode_7 : ∀ w ∈ u_ws RX7 TX7 7, w ∈ wsX7_needNode := fun _ h => List.mem_cons_of_mem _ (List.mem_append_left _ (List.mem_append_left _ (List.mem_append_right _ h)))
set_option maxHeartbeats 4000000 in
set_option maxRecDepth 100000 in
theorem ia_X7_needNode_187 : ∀ w ∈ (vx_atS RX7 187 "java/lang/IndexOutOfBoundsException" ["java/lang/RuntimeException", "java/lang/Exception"]).filter goodWord, w ∈ wsX7_needNode := fun w h => List.mem_cons_of_mem _ (List.mem_append_right _ h)
abbrev rm_X7_needNode : Room := { frames := 8, cells := 1, slots := 6, locals := 120 }
noncomputable def f_X7_needNode (N : Nat) (σ : Wd) (a0 : Int32) : Option ((Nat ⊕ Unit) × Wd) :=
  bP (f_X4_hasNode N σ a0) fun v1 =>
  if v1 = 0 then (
    some (.inl 1, σ))
  else (
    some (.inr (), σ))
set_option maxHeartbeats 4000000 in
set_option maxRecDepth 100000 in
theorem c_X7_needNode {l : Launch} {D : va_G} {cy : Nat → ClassId} {h : Nat → Nat} {N : Nat} {σ : Wd} {a0 : Int32} {r : (Nat ⊕ Unit) × Wd} (hW : WF (wsC cy h) (adC h)) (hfl : l.stackTraces = false) (hr : f_X7_needNode N σ a0 = some r) : ConX l D cy (wsC cy h) (adC h) yX7_needNode wsX7_needNode rm_X7_needNode 1 6 [.ref (h 0), .int a0] (ooV r) σ r.2 := by
  refine ConX.of (lv0 := [(0, .ref (h 0)), (1, .int a0)]) (σ := σ) ooV (fun r => r.2) (by decide) rfl rfl (Nat.le_of_ble_eq_true rfl) rfl hW hfl hr (fun p e s m args below meth c E EX0 => ?_)
  unfold f_X7_needNode
  refine G.aload_n E dX7_needNode_0 0 rfl rfl ?_
  refine G.getR (T := TX7) (N := 7) (C := RX7) (q0 := 0) (i := 0) E dX7_needNode_1 iw_X7_needNode_7 (wsC_at0 _ _ _) rfl (by decide) rfl (List.mem_of_getElem? (i := 3) rfl) ?_
  refine G.iload_n E dX7_needNode_4 1 rfl rfl ?_
  refine G.callVi (n := 1) (T := TX4) (N := 8) (C := RX4) (a := h 1) (q0 := 1) (As := [.int a0]) E dX7_needNode_5 (fun _ hv => c_X4_hasNode E.wf hv) gX7_needNode_X4_hasNode rfl rfl rfl (by decide +kernel) ⟨Nat.le_of_ble_eq_true rfl, Nat.le_of_ble_eq_true rfl⟩ (wsC_at1 _ _ _) rfl rfl (Nat.le_of_ble_eq_true rfl) ⟨Nat.le_of_ble_eq_true rfl, Nat.le_of_ble_eq_true rfl⟩ (fun v1 => ?_)
  refine G.if_ne (tgt := 21) E dX7_needNode_8 (by decide) ?_ ?_
  · exact G.throwS (q := 1) (text := "there is no such node") (cls := "java/lang/IndexOutOfBoundsException") (names := ["java/lang/RuntimeException", "java/lang/Exception"]) E EX0 (by decide +kernel) (by decide +kernel) (List.mem_of_getElem? (i := 1) rfl) (List.mem_of_getElem? (i := 2) rfl) (by decide +kernel) ia_X7_needNode_187 atg_187 (otw_183_187) dX7_needNode_11 dX7_needNode_14 dX7_needNode_15 dX7_needNode_17 dX7_needNode_20 ⟨Nat.le_of_ble_eq_true rfl, Nat.le_of_ble_eq_true rfl⟩ ⟨Nat.le_of_ble_eq_true rfl, Nat.le_of_ble_eq_true rfl⟩ rfl rfl rfl (Nat.le_of_ble_eq_true rfl) (Nat.le_of_ble_eq_true rfl)
  · exact G.x_vret E dX7_needNode_21 rfl (Nat.le_of_ble_eq_true rfl) (Nat.le_of_ble_eq_true rfl) rfl rfl
set_option maxHeartbeats 4000000 in
set_option maxRecDepth 100000 in
theorem iw_X7_chance_7 : ∀ w ∈ u_ws RX7 TX7 7, w ∈ wsX7_chance := fun _ h => List.mem_cons_of_mem _ (List.mem_append_left _ (List.mem_append_left _ (List.mem_append_left _ (List.mem_append_left _ (List.mem_append_right _ h)))))
set_option maxHeartbeats 4000000 in
set_option maxRecDepth 100000 in
theorem ia_X7_chance_87 : ∀ w ∈ (vx_atS RX7 87 "java/lang/IllegalArgumentException" ["java/lang/RuntimeException", "java/lang/Exception"]).filter goodWord, w ∈ wsX7_chance := fun w h => List.mem_cons_of_mem _ (List.mem_append_left _ (List.mem_append_right _ h))
abbrev rm_X7_chance : Room := { frames := 15, cells := 4, slots := 24, locals := 379 }
noncomputable def f_X7_chance (N : Nat) (σ : Wd) (a0 : Int32) (a1 : Int32) (a2 : Int32) (a3 : Int32) : Option ((Nat ⊕ Int64) × Wd) :=
  bX (f_X7_needNode N σ a0) fun v1 s2 =>
  bX (f_X7_needNode N s2 a1) fun v3 s4 =>
  bX (f_X7_needNode N s4 a2) fun v5 s6 =>
  if a1 = a2 then (
    some (.inl 2, s6))
  else (
    bP (f_X7_setOf N a1) fun v7 =>
    bP (f_X7_setOf N a2) fun v8 =>
    lI (v7 ||| v8) fun v9 =>
    bS (f_X0_countWith N s6 v9 a0 a1) fun v10 s11 =>
    bS (f_X0_count N s11 v9) fun v12 s13 =>
    bP (f_X7_partOf N v10 v12 a3) fun v14 =>
    some (.inr v14, s13))
set_option maxHeartbeats 4000000 in
set_option maxRecDepth 100000 in
theorem c_X7_chance {l : Launch} {D : va_G} {cy : Nat → ClassId} {h : Nat → Nat} {N : Nat} {σ : Wd} {a0 : Int32} {a1 : Int32} {a2 : Int32} {a3 : Int32} {r : (Nat ⊕ Int64) × Wd} (hW : WF (wsC cy h) (adC h)) (hfl : l.stackTraces = false) (hr : f_X7_chance N σ a0 a1 a2 a3 = some r) : ConX l D cy (wsC cy h) (adC h) yX7_chance wsX7_chance rm_X7_chance 4 24 [.ref (h 0), .int a0, .int a1, .int a2, .int a3] (ooL r) σ r.2 := by
  refine ConX.of (lv0 := [(0, .ref (h 0)), (1, .int a0), (2, .int a1), (3, .int a2), (4, .int a3)]) (σ := σ) ooL (fun r => r.2) (by decide) rfl rfl (Nat.le_of_ble_eq_true rfl) rfl hW hfl hr (fun p e s m args below meth c E EX0 => ?_)
  unfold f_X7_chance
  refine G.aload_n E dX7_chance_0 0 rfl rfl ?_
  refine G.iload_n E dX7_chance_1 1 rfl rfl ?_
  refine G.callXv (n := 1) (T := TX7) (N := 7) (C := RX7) (a := h 0) (q0 := 0) (As := [.int a0]) E EX0 dX7_chance_2 (fun _ hv => c_X7_needNode E.wf EX0.1 hv) gX7_chance_X7_needNode rfl rfl rfl (by decide +kernel) ⟨(Nat.le_of_ble_eq_true rfl), (Nat.le_of_ble_eq_true rfl)⟩ (wsC_at0 _ _ _) rfl rfl (Nat.le_of_ble_eq_true rfl) ⟨(Nat.le_of_ble_eq_true rfl), (Nat.le_of_ble_eq_true rfl)⟩ (Nat.le_of_ble_eq_true rfl) (Nat.le_of_ble_eq_true rfl) (fun _ _ => rfl) (fun v1 s2 => ?_)
  refine G.aload_n E dX7_chance_5 0 rfl rfl ?_
  refine G.iload_n E dX7_chance_6 2 rfl rfl ?_
  refine G.callXv (n := 1) (T := TX7) (N := 7) (C := RX7) (a := h 0) (q0 := 0) (As := [.int a1]) E EX0 dX7_chance_7 (fun _ hv => c_X7_needNode E.wf EX0.1 hv) gX7_chance_X7_needNode rfl rfl rfl (by decide +kernel) ⟨(Nat.le_of_ble_eq_true rfl), (Nat.le_of_ble_eq_true rfl)⟩ (wsC_at0 _ _ _) rfl rfl (Nat.le_of_ble_eq_true rfl) ⟨(Nat.le_of_ble_eq_true rfl), (Nat.le_of_ble_eq_true rfl)⟩ (Nat.le_of_ble_eq_true rfl) (Nat.le_of_ble_eq_true rfl) (fun _ _ => rfl) (fun v3 s4 => ?_)
  refine G.aload_n E dX7_chance_10 0 rfl rfl ?_
  refine G.iload_n E dX7_chance_11 3 rfl rfl ?_
  refine G.callXv (n := 1) (T := TX7) (N := 7) (C := RX7) (a := h 0) (q0 := 0) (As := [.int a2]) E EX0 dX7_chance_12 (fun _ hv => c_X7_needNode E.wf EX0.1 hv) gX7_chance_X7_needNode rfl rfl rfl (by decide +kernel) ⟨(Nat.le_of_ble_eq_true rfl), (Nat.le_of_ble_eq_true rfl)⟩ (wsC_at0 _ _ _) rfl rfl (Nat.le_of_ble_eq_true rfl) ⟨(Nat.le_of_ble_eq_true rfl), (Nat.le_of_ble_eq_true rfl)⟩ (Nat.le_of_ble_eq_true rfl) (Nat.le_of_ble_eq_true rfl) (fun _ _ => rfl) (fun v5 s6 => ?_)
  refine G.iload_n E dX7_chance_15 2 rfl rfl ?_
  refine G.iload_n E dX7_chance_16 3 rfl rfl ?_
  refine G.icmp_ne (tgt := 30) E dX7_chance_17 (by decide) ?_ ?_
  · exact G.throwS (q := 2) (text := "the two nodes are the same") (cls := "java/lang/IllegalArgumentException") (names := ["java/lang/RuntimeException", "java/lang/Exception"]) E EX0 (by decide +kernel) (by decide +kernel) (List.mem_of_getElem? (i := 1) rfl) (List.mem_of_getElem? (i := 2) rfl) (by decide +kernel) ia_X7_chance_87 atg_87 (otw_83_87) dX7_chance_20 dX7_chance_23 dX7_chance_24 dX7_chance_26 dX7_chance_29 ⟨Nat.le_of_ble_eq_true rfl, Nat.le_of_ble_eq_true rfl⟩ ⟨Nat.le_of_ble_eq_true rfl, Nat.le_of_ble_eq_true rfl⟩ rfl rfl rfl (Nat.le_of_ble_eq_true rfl) (Nat.le_of_ble_eq_true rfl)
  · refine G.iload_n E dX7_chance_30 2 rfl rfl ?_
    refine G.callSi (n := 1) (As := [.int a1]) E dX7_chance_31 (fun _ hv => c_X7_setOf E.wf hv) gX7_chance_X7_setOf rfl rfl rfl (by decide +kernel) ⟨Nat.le_of_ble_eq_true rfl, Nat.le_of_ble_eq_true rfl⟩ rfl (Nat.le_of_ble_eq_true rfl) ⟨Nat.le_of_ble_eq_true rfl, Nat.le_of_ble_eq_true rfl⟩ (fun v7 => ?_)
    refine G.iload_n E dX7_chance_34 3 rfl rfl ?_
    refine G.callSi (n := 1) (As := [.int a2]) E dX7_chance_35 (fun _ hv => c_X7_setOf E.wf hv) gX7_chance_X7_setOf rfl rfl rfl (by decide +kernel) ⟨Nat.le_of_ble_eq_true rfl, Nat.le_of_ble_eq_true rfl⟩ rfl (Nat.le_of_ble_eq_true rfl) ⟨Nat.le_of_ble_eq_true rfl, Nat.le_of_ble_eq_true rfl⟩ (fun v8 => ?_)
    refine G.ior E dX7_chance_38 ?_
    refine G.letI (fun v9 => ?_)
    refine G.istore (lv' := [(5, .int v9), (0, .ref (h 0)), (1, .int a0), (2, .int a1), (3, .int a2), (4, .int a3)]) E dX7_chance_39 (by decide) rfl ?_
    refine G.aload_n E dX7_chance_41 1 rfl rfl ?_
    refine G.getR (T := TX7) (N := 7) (C := RX7) (q0 := 0) (i := 1) E dX7_chance_42 iw_X7_chance_7 (wsC_at0 _ _ _) rfl (by decide) rfl (List.mem_of_getElem? (i := 3) rfl) ?_
    refine G.iload E dX7_chance_45 0 rfl ?_
    refine G.iload_n E dX7_chance_47 2 rfl rfl ?_
    refine G.iload_n E dX7_chance_48 3 rfl rfl ?_
    refine G.callVls (n := 3) (T := TX0) (N := 9) (C := RX0) (a := h 5) (q0 := 5) (As := [.int v9, .int a0, .int a1]) E dX7_chance_49 (fun _ _ hv => c_X0_countWith E.wf hv) gX7_chance_X0_countWith rfl rfl rfl (by decide +kernel) ⟨Nat.le_of_ble_eq_true rfl, Nat.le_of_ble_eq_true rfl⟩ (wsC_at5 _ _ _) rfl rfl (Nat.le_of_ble_eq_true rfl) ⟨Nat.le_of_ble_eq_true rfl, Nat.le_of_ble_eq_true rfl⟩ (fun v10 s11 => ?_)
    refine G.aload_n E dX7_chance_52 1 rfl rfl ?_
    refine G.getR (T := TX7) (N := 7) (C := RX7) (q0 := 0) (i := 1) E dX7_chance_53 iw_X7_chance_7 (wsC_at0 _ _ _) rfl (by decide) rfl (List.mem_of_getElem? (i := 3) rfl) ?_
    refine G.iload E dX7_chance_56 0 rfl ?_
    refine G.callVls (n := 1) (T := TX0) (N := 9) (C := RX0) (a := h 5) (q0 := 5) (As := [.int v9]) E dX7_chance_58 (fun _ _ hv => c_X0_count E.wf hv) gX7_chance_X0_count rfl rfl rfl (by decide +kernel) ⟨Nat.le_of_ble_eq_true rfl, Nat.le_of_ble_eq_true rfl⟩ (wsC_at5 _ _ _) rfl rfl (Nat.le_of_ble_eq_true rfl) ⟨Nat.le_of_ble_eq_true rfl, Nat.le_of_ble_eq_true rfl⟩ (fun v12 s13 => ?_)
    refine G.iload E dX7_chance_61 5 rfl ?_
    refine G.callSl (n := 3) (As := [.long v10, .long v12, .int a3]) E dX7_chance_63 (fun _ hv => c_X7_partOf E.wf hv) gX7_chance_X7_partOf rfl rfl rfl (by decide +kernel) ⟨Nat.le_of_ble_eq_true rfl, Nat.le_of_ble_eq_true rfl⟩ rfl (Nat.le_of_ble_eq_true rfl) ⟨Nat.le_of_ble_eq_true rfl, Nat.le_of_ble_eq_true rfl⟩ (fun v14 => ?_)
    exact G.x_lret E dX7_chance_66 rfl (Nat.le_of_ble_eq_true rfl) (Nat.le_of_ble_eq_true rfl) rfl rfl
set_option maxHeartbeats 4000000 in
set_option maxRecDepth 100000 in
theorem iw_X7_countTrees_7 : ∀ w ∈ u_ws RX7 TX7 7, w ∈ wsX7_countTrees := fun _ h => List.mem_cons_of_mem _ (List.mem_append_left _ (List.mem_append_left _ (List.mem_append_right _ h)))
abbrev rm_X7_countTrees : Room := { frames := 15, cells := 0, slots := 0, locals := 379 }
noncomputable def f_X7_countTrees (N : Nat) (σ : Wd) : Option (Int64 × Wd) :=
  bP (f_X4_lowestNode N σ) fun v1 =>
  if v1 = (-1) then (
    some (0, σ))
  else (
    bP (f_X7_setOf N v1) fun v2 =>
    bS (f_X0_count N σ v2) fun v3 s4 =>
    some (v3, s4))
set_option maxHeartbeats 4000000 in
set_option maxRecDepth 100000 in
theorem c_X7_countTrees {l : Launch} {D : va_G} {cy : Nat → ClassId} {h : Nat → Nat} {N : Nat} {σ : Wd} {r : Int64} {σ1 : Wd} (hW : WF (wsC cy h) (adC h)) (hr : f_X7_countTrees N σ = some (r, σ1)) : Con l D cy (wsC cy h) (adC h) yX7_countTrees wsX7_countTrees rm_X7_countTrees 0 0 [.ref (h 0)] (some (.long r)) σ σ1 := by
  refine Con.of (ρ := Int64 × Wd) (lv0 := [(0, .ref (h 0))]) (σ := σ) (fun r : Int64 × Wd => some (.long r.1)) (fun r => r.2) (by decide) rfl rfl (Nat.le_of_ble_eq_true rfl) rfl hW hr (fun p e s m args below meth c E => ?_)
  unfold f_X7_countTrees
  refine G.aload_n E dX7_countTrees_0 0 rfl rfl ?_
  refine G.getR (T := TX7) (N := 7) (C := RX7) (q0 := 0) (i := 0) E dX7_countTrees_1 iw_X7_countTrees_7 (wsC_at0 _ _ _) rfl (by decide) rfl (List.mem_of_getElem? (i := 1) rfl) ?_
  refine G.callVi (n := 0) (T := TX4) (N := 8) (C := RX4) (a := h 1) (q0 := 1) (As := []) E dX7_countTrees_4 (fun _ hv => c_X4_lowestNode E.wf hv) gX7_countTrees_X4_lowestNode rfl rfl rfl (by decide +kernel) ⟨Nat.le_of_ble_eq_true rfl, Nat.le_of_ble_eq_true rfl⟩ (wsC_at1 _ _ _) rfl rfl (Nat.le_of_ble_eq_true rfl) ⟨Nat.le_of_ble_eq_true rfl, Nat.le_of_ble_eq_true rfl⟩ (fun v1 => ?_)
  refine G.istore_n (lv' := [(1, .int v1), (0, .ref (h 0))]) E dX7_countTrees_7 rfl (by decide) rfl ?_
  refine G.iload_n E dX7_countTrees_8 0 rfl rfl ?_
  refine G.iconst (v := (-1)) E dX7_countTrees_9 (by decide) ?_
  refine G.icmp_ne (tgt := 17) E dX7_countTrees_10 (by decide) ?_ ?_
  · refine G.lconst (v := 0) E dX7_countTrees_13 (by decide) ?_
    refine G.goto (tgt := 28) E dX7_countTrees_14 (by decide) ?_
    exact G.lret E dX7_countTrees_28 rfl rfl
  · refine G.aload_n E dX7_countTrees_17 1 rfl rfl ?_
    refine G.getR (T := TX7) (N := 7) (C := RX7) (q0 := 0) (i := 1) E dX7_countTrees_18 iw_X7_countTrees_7 (wsC_at0 _ _ _) rfl (by decide) rfl (List.mem_of_getElem? (i := 2) rfl) ?_
    refine G.iload_n E dX7_countTrees_21 0 rfl rfl ?_
    refine G.callSi (n := 1) (As := [.int v1]) E dX7_countTrees_22 (fun _ hv => c_X7_setOf E.wf hv) gX7_countTrees_X7_setOf rfl rfl rfl (by decide +kernel) ⟨Nat.le_of_ble_eq_true rfl, Nat.le_of_ble_eq_true rfl⟩ rfl (Nat.le_of_ble_eq_true rfl) ⟨Nat.le_of_ble_eq_true rfl, Nat.le_of_ble_eq_true rfl⟩ (fun v2 => ?_)
    refine G.callVls (n := 1) (T := TX0) (N := 9) (C := RX0) (a := h 5) (q0 := 5) (As := [.int v2]) E dX7_countTrees_25 (fun _ _ hv => c_X0_count E.wf hv) gX7_countTrees_X0_count rfl rfl rfl (by decide +kernel) ⟨Nat.le_of_ble_eq_true rfl, Nat.le_of_ble_eq_true rfl⟩ (wsC_at5 _ _ _) rfl rfl (Nat.le_of_ble_eq_true rfl) ⟨Nat.le_of_ble_eq_true rfl, Nat.le_of_ble_eq_true rfl⟩ (fun v3 s4 => ?_)
    exact G.lret E dX7_countTrees_28 rfl rfl
set_option maxHeartbeats 4000000 in
set_option maxRecDepth 100000 in
theorem iw_X7_valueOf_7 : ∀ w ∈ u_ws RX7 TX7 7, w ∈ wsX7_valueOf := fun _ h => List.mem_cons_of_mem _ (List.mem_append_right _ h)
abbrev rm_X7_valueOf : Room := { frames := 0, cells := 0, slots := 0, locals := 0 }
noncomputable def f_X7_valueOf (N : Nat) (σ : Wd) (a0 : Int32) : Option (Int64) :=
  if a0 < 0 then (
    some 0)
  else (
    if 7 ≤ a0 then (
      some 0)
    else (
      rI σ 57 7 a0 fun v1 =>
      some (Int32.toInt64 v1)))
set_option maxHeartbeats 4000000 in
set_option maxRecDepth 100000 in
theorem c_X7_valueOf {l : Launch} {D : va_G} {cy : Nat → ClassId} {h : Nat → Nat} {N : Nat} {σ : Wd} {a0 : Int32} {r : Int64} (hW : WF (wsC cy h) (adC h)) (hr : f_X7_valueOf N σ a0 = some r) : Con l D cy (wsC cy h) (adC h) yX7_valueOf wsX7_valueOf rm_X7_valueOf 0 0 [.ref (h 0), .int a0] (some (.long r)) σ σ := by
  refine Con.of (ρ := Int64) (lv0 := [(0, .ref (h 0)), (1, .int a0)]) (σ := σ) (fun r : Int64 => some (.long r)) (fun _ => σ) (by decide) rfl rfl (Nat.le_of_ble_eq_true rfl) rfl hW hr (fun p e s m args below meth c E => ?_)
  unfold f_X7_valueOf
  refine G.iload_n E dX7_valueOf_0 1 rfl rfl ?_
  refine G.if_lt (tgt := 23) E dX7_valueOf_1 (by decide) ?_ ?_
  · refine G.lconst (v := 0) E dX7_valueOf_23 (by decide) ?_
    exact G.lret E dX7_valueOf_24 rfl rfl
  · refine G.iload_n E dX7_valueOf_4 1 rfl rfl ?_
    refine G.aload_n E dX7_valueOf_5 0 rfl rfl ?_
    refine G.getR (T := TX7) (N := 7) (C := RX7) (q0 := 0) (i := 6) E dX7_valueOf_6 iw_X7_valueOf_7 (wsC_at0 _ _ _) rfl (by decide) rfl (List.mem_of_getElem? (i := 1) rfl) ?_
    refine G.alen (q0 := 57) (t0 := 0) (v := 7) E dX7_valueOf_9 (wsC_at57 _ _ _) rfl rfl ?_
    refine G.icmp_ge (tgt := 23) E dX7_valueOf_10 (by decide) ?_ ?_
    · refine G.lconst (v := 0) E dX7_valueOf_23 (by decide) ?_
      exact G.lret E dX7_valueOf_24 rfl rfl
    · refine G.aload_n E dX7_valueOf_13 0 rfl rfl ?_
      refine G.getR (T := TX7) (N := 7) (C := RX7) (q0 := 0) (i := 6) E dX7_valueOf_14 iw_X7_valueOf_7 (wsC_at0 _ _ _) rfl (by decide) rfl (List.mem_of_getElem? (i := 1) rfl) ?_
      refine G.iload_n E dX7_valueOf_17 1 rfl rfl ?_
      refine G.iald (q0 := 57) E dX7_valueOf_18 (wsC_at57 _ _ _) (fun v1 => ?_)
      refine G.i2l E dX7_valueOf_19 ?_
      refine G.goto (tgt := 24) E dX7_valueOf_20 (by decide) ?_
      exact G.lret E dX7_valueOf_24 rfl rfl
set_option maxHeartbeats 4000000 in
set_option maxRecDepth 100000 in
theorem iw_X7_upperOfCurrent_7 : ∀ w ∈ u_ws RX7 TX7 7, w ∈ wsX7_upperOfCurrent := fun _ h => List.mem_cons_of_mem _ (List.mem_append_left _ (List.mem_append_left _ (List.mem_append_right _ h)))
abbrev rm_X7_upperOfCurrent : Room := { frames := 15, cells := 0, slots := 0, locals := 380 }
noncomputable def fl_X7_upperOfCurrent_5 {ρ : Type} (N : Nat) (x1 : Int32) (K : Int64 → Wd → Option ρ) : Nat → Int64 → Int32 → Wd → Option ρ
  | 0, _, _, _ => none
  | n + 1, x2, x4, s0 =>
    if 7 ≤ x4 then (
      K x2 s0)
    else (
      jn (fun (v1 : Int64) (s2 : Wd) => ((
        fl_X7_upperOfCurrent_5 N x1 K n v1 (x4 + 1) s2) : Option (ρ))) fun j53 =>
      if x4 = x1 then (
        j53 x2 s0)
      else (
        bP (f_X4_hasEdge N s0 x4) fun v3 =>
        if v3 = 0 then (
          j53 x2 s0)
        else (
          bP (f_X7_valueOf N s0 x1) fun v4 =>
          bP (f_X7_valueOf N s0 x4) fun v5 =>
          bS (f_X7_upperOfAnswer N s0 x1 x4) fun v6 s7 =>
          lL (x2 + ((v4 - v5) * v6)) fun v8 =>
          j53 v8 s7)))
set_option maxHeartbeats 4000000 in
set_option maxRecDepth 100000 in
theorem gl_X7_upperOfCurrent_5 {ρ : Type} {Q : ρ → State → Prop} {N : Nat} {x1 : Int32} {K : Int64 → Wd → Option ρ} (E : EV p s m args meth c cX7_upperOfCurrent 5 RX7 wsX7_upperOfCurrent (some .long) D cy (wsC cy h) (adC h)) (hK : ∀ (x2' : Int64) (s' : Wd), G p l e (headSpec wsX7_upperOfCurrent rm_X7_upperOfCurrent).room s m args below meth c 5 0 0 D (wsC cy h) (adC h) Q 59 [(2, .long (x2'))] [] s' (K x2' s')) :
  ∀ (n : Nat) (x2 : Int64) (x4 : Int32) (s0 : Wd), G p l e (headSpec wsX7_upperOfCurrent rm_X7_upperOfCurrent).room s m args below meth c 5 0 0 D (wsC cy h) (adC h) Q 5 [(0, .ref (h 0)), (1, .int x1), (2, .long x2), (4, .int x4)] [] s0 (fl_X7_upperOfCurrent_5 N x1 K n x2 x4 s0) := by
  intro n
  induction n with
  | zero => intros; exact G.no
  | succ n ih =>
    intro x2 x4 s0
    rw [fl_X7_upperOfCurrent_5]
    refine G.iload E dX7_upperOfCurrent_5 3 rfl ?_
    refine G.bipush (v := 7) E dX7_upperOfCurrent_7 (by decide) ?_
    refine G.icmp_ge (tgt := 59) E dX7_upperOfCurrent_9 (by decide) ?_ ?_
    · refine G.loc [2] rfl ?_
      exact hK x2 s0
    · refine G.iload E dX7_upperOfCurrent_12 3 rfl ?_
      refine G.iload_n E dX7_upperOfCurrent_14 1 rfl rfl ?_
      refine G.jn (P := fun j => ∀ (v1 : Int64) (s2 : Wd), G p l e (headSpec wsX7_upperOfCurrent rm_X7_upperOfCurrent).room s m args below meth c 5 0 0 D (wsC cy h) (adC h) Q 53 [(0, .ref (h 0)), (1, .int x1), (2, .long v1), (4, .int x4)] [] s2 (j v1 s2)) ?_ (fun j53 hj53 => ?_)
      · intro v1 s2
        refine G.iinc (v := x4 + 1) (lv' := [(4, .int (x4 + 1)), (0, .ref (h 0)), (1, .int x1), (2, .long v1)]) E dX7_upperOfCurrent_53 3 rfl rfl (by decide) rfl ?_
        refine G.goto (tgt := 5) E dX7_upperOfCurrent_56 (by decide) ?_
        refine G.loc [1, 2, 3, 0] rfl ?_
        exact ih v1 (x4 + 1) s2
      · refine G.icmp_eq (tgt := 53) E dX7_upperOfCurrent_15 (by decide) ?_ ?_
        · refine G.loc [0, 1, 2, 3] rfl ?_
          exact hj53 x2 s0
        · refine G.aload_n E dX7_upperOfCurrent_18 0 rfl rfl ?_
          refine G.getR (T := TX7) (N := 7) (C := RX7) (q0 := 0) (i := 0) E dX7_upperOfCurrent_19 iw_X7_upperOfCurrent_7 (wsC_at0 _ _ _) rfl (by decide) rfl (List.mem_of_getElem? (i := 1) rfl) ?_
          refine G.iload E dX7_upperOfCurrent_22 3 rfl ?_
          refine G.callVi (n := 1) (T := TX4) (N := 8) (C := RX4) (a := h 1) (q0 := 1) (As := [.int x4]) E dX7_upperOfCurrent_24 (fun _ hv => c_X4_hasEdge E.wf hv) gX7_upperOfCurrent_X4_hasEdge rfl rfl rfl (by decide +kernel) ⟨Nat.le_of_ble_eq_true rfl, Nat.le_of_ble_eq_true rfl⟩ (wsC_at1 _ _ _) rfl rfl (Nat.le_of_ble_eq_true rfl) ⟨Nat.le_of_ble_eq_true rfl, Nat.le_of_ble_eq_true rfl⟩ (fun v3 => ?_)
          refine G.if_eq (tgt := 53) E dX7_upperOfCurrent_27 (by decide) ?_ ?_
          · refine G.loc [0, 1, 2, 3] rfl ?_
            exact hj53 x2 s0
          · refine G.lload_n E dX7_upperOfCurrent_30 2 rfl rfl ?_
            refine G.aload_n E dX7_upperOfCurrent_31 0 rfl rfl ?_
            refine G.iload_n E dX7_upperOfCurrent_32 1 rfl rfl ?_
            refine G.callVl (n := 1) (T := TX7) (N := 7) (C := RX7) (a := h 0) (q0 := 0) (As := [.int x1]) E dX7_upperOfCurrent_33 (fun _ hv => c_X7_valueOf E.wf hv) gX7_upperOfCurrent_X7_valueOf rfl rfl rfl (by decide +kernel) ⟨Nat.le_of_ble_eq_true rfl, Nat.le_of_ble_eq_true rfl⟩ (wsC_at0 _ _ _) rfl rfl (Nat.le_of_ble_eq_true rfl) ⟨Nat.le_of_ble_eq_true rfl, Nat.le_of_ble_eq_true rfl⟩ (fun v4 => ?_)
            refine G.aload_n E dX7_upperOfCurrent_36 0 rfl rfl ?_
            refine G.iload E dX7_upperOfCurrent_37 3 rfl ?_
            refine G.callVl (n := 1) (T := TX7) (N := 7) (C := RX7) (a := h 0) (q0 := 0) (As := [.int x4]) E dX7_upperOfCurrent_39 (fun _ hv => c_X7_valueOf E.wf hv) gX7_upperOfCurrent_X7_valueOf rfl rfl rfl (by decide +kernel) ⟨Nat.le_of_ble_eq_true rfl, Nat.le_of_ble_eq_true rfl⟩ (wsC_at0 _ _ _) rfl rfl (Nat.le_of_ble_eq_true rfl) ⟨Nat.le_of_ble_eq_true rfl, Nat.le_of_ble_eq_true rfl⟩ (fun v5 => ?_)
            refine G.lsub E dX7_upperOfCurrent_42 ?_
            refine G.aload_n E dX7_upperOfCurrent_43 0 rfl rfl ?_
            refine G.iload_n E dX7_upperOfCurrent_44 1 rfl rfl ?_
            refine G.iload E dX7_upperOfCurrent_45 3 rfl ?_
            refine G.callVls (n := 2) (T := TX7) (N := 7) (C := RX7) (a := h 0) (q0 := 0) (As := [.int x1, .int x4]) E dX7_upperOfCurrent_47 (fun _ _ hv => c_X7_upperOfAnswer E.wf hv) gX7_upperOfCurrent_X7_upperOfAnswer rfl rfl rfl (by decide +kernel) ⟨Nat.le_of_ble_eq_true rfl, Nat.le_of_ble_eq_true rfl⟩ (wsC_at0 _ _ _) rfl rfl (Nat.le_of_ble_eq_true rfl) ⟨Nat.le_of_ble_eq_true rfl, Nat.le_of_ble_eq_true rfl⟩ (fun v6 s7 => ?_)
            refine G.lmul E dX7_upperOfCurrent_50 ?_
            refine G.ladd E dX7_upperOfCurrent_51 ?_
            refine G.letL (fun v8 => ?_)
            refine G.lstore_n (lv' := [(2, .long v8), (0, .ref (h 0)), (1, .int x1), (4, .int x4)]) E dX7_upperOfCurrent_52 rfl (by decide) rfl ?_
            refine G.loc [1, 2, 0, 3] rfl ?_
            exact hj53 v8 s7
noncomputable def f_X7_upperOfCurrent (N : Nat) (σ : Wd) (a0 : Int32) : Option (Int64 × Wd) :=
  fl_X7_upperOfCurrent_5 N a0 (fun v9 s10 =>
    some (v9, s10)) N 0 0 σ
set_option maxHeartbeats 4000000 in
set_option maxRecDepth 100000 in
theorem c_X7_upperOfCurrent {l : Launch} {D : va_G} {cy : Nat → ClassId} {h : Nat → Nat} {N : Nat} {σ : Wd} {a0 : Int32} {r : Int64} {σ1 : Wd} (hW : WF (wsC cy h) (adC h)) (hr : f_X7_upperOfCurrent N σ a0 = some (r, σ1)) : Con l D cy (wsC cy h) (adC h) yX7_upperOfCurrent wsX7_upperOfCurrent rm_X7_upperOfCurrent 0 0 [.ref (h 0), .int a0] (some (.long r)) σ σ1 := by
  refine Con.of (ρ := Int64 × Wd) (lv0 := [(0, .ref (h 0)), (1, .int a0)]) (σ := σ) (fun r : Int64 × Wd => some (.long r.1)) (fun r => r.2) (by decide) rfl rfl (Nat.le_of_ble_eq_true rfl) rfl hW hr (fun p e s m args below meth c E => ?_)
  unfold f_X7_upperOfCurrent
  refine G.lconst (v := 0) E dX7_upperOfCurrent_0 (by decide) ?_
  refine G.lstore_n (lv' := [(2, .long 0), (0, .ref (h 0)), (1, .int a0)]) E dX7_upperOfCurrent_1 rfl (by decide) rfl ?_
  refine G.iconst (v := 0) E dX7_upperOfCurrent_2 (by decide) ?_
  refine G.istore (lv' := [(4, .int 0), (2, .long 0), (0, .ref (h 0)), (1, .int a0)]) E dX7_upperOfCurrent_3 (by decide) rfl ?_
  refine G.loc [2, 3, 1, 0] rfl ?_
  refine gl_X7_upperOfCurrent_5 E (fun v9 s10 => ?_) N _ _ _
  refine G.lload_n E dX7_upperOfCurrent_59 0 rfl rfl ?_
  exact G.lret E dX7_upperOfCurrent_60 rfl rfl
abbrev rm_X7_current : Room := { frames := 16, cells := 1, slots := 6, locals := 404 }
noncomputable def f_X7_current (N : Nat) (σ : Wd) (a0 : Int32) (a1 : Int32) : Option ((Nat ⊕ Int64) × Wd) :=
  bX (f_X7_needEdge N σ a0) fun v1 s2 =>
  bS (f_X7_upperOfCurrent N s2 a0) fun v3 s4 =>
  bS (f_X7_countRest N s4) fun v5 s6 =>
  bP (f_X7_partOf N v3 v5 a1) fun v7 =>
  some (.inr v7, s6)
set_option maxHeartbeats 4000000 in
set_option maxRecDepth 100000 in
theorem c_X7_current {l : Launch} {D : va_G} {cy : Nat → ClassId} {h : Nat → Nat} {N : Nat} {σ : Wd} {a0 : Int32} {a1 : Int32} {r : (Nat ⊕ Int64) × Wd} (hW : WF (wsC cy h) (adC h)) (hfl : l.stackTraces = false) (hr : f_X7_current N σ a0 a1 = some r) : ConX l D cy (wsC cy h) (adC h) yX7_current wsX7_current rm_X7_current 1 6 [.ref (h 0), .int a0, .int a1] (ooL r) σ r.2 := by
  refine ConX.of (lv0 := [(0, .ref (h 0)), (1, .int a0), (2, .int a1)]) (σ := σ) ooL (fun r => r.2) (by decide) rfl rfl (Nat.le_of_ble_eq_true rfl) rfl hW hfl hr (fun p e s m args below meth c E EX0 => ?_)
  unfold f_X7_current
  refine G.aload_n E dX7_current_0 0 rfl rfl ?_
  refine G.iload_n E dX7_current_1 1 rfl rfl ?_
  refine G.callXv (n := 1) (T := TX7) (N := 7) (C := RX7) (a := h 0) (q0 := 0) (As := [.int a0]) E EX0 dX7_current_2 (fun _ hv => c_X7_needEdge E.wf EX0.1 hv) gX7_current_X7_needEdge rfl rfl rfl (by decide +kernel) ⟨(Nat.le_of_ble_eq_true rfl), (Nat.le_of_ble_eq_true rfl)⟩ (wsC_at0 _ _ _) rfl rfl (Nat.le_of_ble_eq_true rfl) ⟨(Nat.le_of_ble_eq_true rfl), (Nat.le_of_ble_eq_true rfl)⟩ (Nat.le_of_ble_eq_true rfl) (Nat.le_of_ble_eq_true rfl) (fun _ _ => rfl) (fun v1 s2 => ?_)
  refine G.aload_n E dX7_current_5 0 rfl rfl ?_
  refine G.iload_n E dX7_current_6 1 rfl rfl ?_
  refine G.callVls (n := 1) (T := TX7) (N := 7) (C := RX7) (a := h 0) (q0 := 0) (As := [.int a0]) E dX7_current_7 (fun _ _ hv => c_X7_upperOfCurrent E.wf hv) gX7_current_X7_upperOfCurrent rfl rfl rfl (by decide +kernel) ⟨Nat.le_of_ble_eq_true rfl, Nat.le_of_ble_eq_true rfl⟩ (wsC_at0 _ _ _) rfl rfl (Nat.le_of_ble_eq_true rfl) ⟨Nat.le_of_ble_eq_true rfl, Nat.le_of_ble_eq_true rfl⟩ (fun v3 s4 => ?_)
  refine G.aload_n E dX7_current_10 0 rfl rfl ?_
  refine G.callVls (n := 0) (T := TX7) (N := 7) (C := RX7) (a := h 0) (q0 := 0) (As := []) E dX7_current_11 (fun _ _ hv => c_X7_countRest E.wf hv) gX7_current_X7_countRest rfl rfl rfl (by decide +kernel) ⟨Nat.le_of_ble_eq_true rfl, Nat.le_of_ble_eq_true rfl⟩ (wsC_at0 _ _ _) rfl rfl (Nat.le_of_ble_eq_true rfl) ⟨Nat.le_of_ble_eq_true rfl, Nat.le_of_ble_eq_true rfl⟩ (fun v5 s6 => ?_)
  refine G.iload_n E dX7_current_14 2 rfl rfl ?_
  refine G.callSl (n := 3) (As := [.long v3, .long v5, .int a1]) E dX7_current_15 (fun _ hv => c_X7_partOf E.wf hv) gX7_current_X7_partOf rfl rfl rfl (by decide +kernel) ⟨Nat.le_of_ble_eq_true rfl, Nat.le_of_ble_eq_true rfl⟩ rfl (Nat.le_of_ble_eq_true rfl) ⟨Nat.le_of_ble_eq_true rfl, Nat.le_of_ble_eq_true rfl⟩ (fun v7 => ?_)
  exact G.x_lret E dX7_current_18 rfl (Nat.le_of_ble_eq_true rfl) (Nat.le_of_ble_eq_true rfl) rfl rfl
set_option maxHeartbeats 4000000 in
set_option maxRecDepth 100000 in
theorem iw_X7_distance_7 : ∀ w ∈ u_ws RX7 TX7 7, w ∈ wsX7_distance := fun _ h => List.mem_cons_of_mem _ (List.mem_append_left _ (List.mem_append_left _ (List.mem_append_left _ (List.mem_append_right _ h))))
abbrev rm_X7_distance : Room := { frames := 16, cells := 2, slots := 12, locals := 400 }
noncomputable def f_X7_distance (N : Nat) (σ : Wd) (a0 : Int32) (a1 : Int32) (a2 : Int32) : Option ((Nat ⊕ Int64) × Wd) :=
  bX (f_X7_needNode N σ a0) fun v1 s2 =>
  bX (f_X7_needNode N s2 a1) fun v3 s4 =>
  if a0 = a1 then (
    bP (f_X7_partOf N 0 1 a2) fun v12 =>
    some (.inr v12, s4))
  else (
    bP (f_X7_setOf N a0) fun v5 =>
    bP (f_X7_setOf N a1) fun v6 =>
    bS (f_X0_count N s4 (v5 ||| v6)) fun v7 s8 =>
    bS (f_X7_countTrees N s8) fun v9 s10 =>
    bP (f_X7_partOf N v7 v9 a2) fun v11 =>
    some (.inr v11, s10))
set_option maxHeartbeats 4000000 in
set_option maxRecDepth 100000 in
theorem c_X7_distance {l : Launch} {D : va_G} {cy : Nat → ClassId} {h : Nat → Nat} {N : Nat} {σ : Wd} {a0 : Int32} {a1 : Int32} {a2 : Int32} {r : (Nat ⊕ Int64) × Wd} (hW : WF (wsC cy h) (adC h)) (hfl : l.stackTraces = false) (hr : f_X7_distance N σ a0 a1 a2 = some r) : ConX l D cy (wsC cy h) (adC h) yX7_distance wsX7_distance rm_X7_distance 2 12 [.ref (h 0), .int a0, .int a1, .int a2] (ooL r) σ r.2 := by
  refine ConX.of (lv0 := [(0, .ref (h 0)), (1, .int a0), (2, .int a1), (3, .int a2)]) (σ := σ) ooL (fun r => r.2) (by decide) rfl rfl (Nat.le_of_ble_eq_true rfl) rfl hW hfl hr (fun p e s m args below meth c E EX0 => ?_)
  unfold f_X7_distance
  refine G.aload_n E dX7_distance_0 0 rfl rfl ?_
  refine G.iload_n E dX7_distance_1 1 rfl rfl ?_
  refine G.callXv (n := 1) (T := TX7) (N := 7) (C := RX7) (a := h 0) (q0 := 0) (As := [.int a0]) E EX0 dX7_distance_2 (fun _ hv => c_X7_needNode E.wf EX0.1 hv) gX7_distance_X7_needNode rfl rfl rfl (by decide +kernel) ⟨(Nat.le_of_ble_eq_true rfl), (Nat.le_of_ble_eq_true rfl)⟩ (wsC_at0 _ _ _) rfl rfl (Nat.le_of_ble_eq_true rfl) ⟨(Nat.le_of_ble_eq_true rfl), (Nat.le_of_ble_eq_true rfl)⟩ (Nat.le_of_ble_eq_true rfl) (Nat.le_of_ble_eq_true rfl) (fun _ _ => rfl) (fun v1 s2 => ?_)
  refine G.aload_n E dX7_distance_5 0 rfl rfl ?_
  refine G.iload_n E dX7_distance_6 2 rfl rfl ?_
  refine G.callXv (n := 1) (T := TX7) (N := 7) (C := RX7) (a := h 0) (q0 := 0) (As := [.int a1]) E EX0 dX7_distance_7 (fun _ hv => c_X7_needNode E.wf EX0.1 hv) gX7_distance_X7_needNode rfl rfl rfl (by decide +kernel) ⟨(Nat.le_of_ble_eq_true rfl), (Nat.le_of_ble_eq_true rfl)⟩ (wsC_at0 _ _ _) rfl rfl (Nat.le_of_ble_eq_true rfl) ⟨(Nat.le_of_ble_eq_true rfl), (Nat.le_of_ble_eq_true rfl)⟩ (Nat.le_of_ble_eq_true rfl) (Nat.le_of_ble_eq_true rfl) (fun _ _ => rfl) (fun v3 s4 => ?_)
  refine G.iload_n E dX7_distance_10 1 rfl rfl ?_
  refine G.iload_n E dX7_distance_11 2 rfl rfl ?_
  refine G.icmp_ne (tgt := 22) E dX7_distance_12 (by decide) ?_ ?_
  · refine G.lconst (v := 0) E dX7_distance_15 (by decide) ?_
    refine G.lconst (v := 1) E dX7_distance_16 (by decide) ?_
    refine G.iload_n E dX7_distance_17 3 rfl rfl ?_
    refine G.callSl (n := 3) (As := [.long 0, .long 1, .int a2]) E dX7_distance_18 (fun _ hv => c_X7_partOf E.wf hv) gX7_distance_X7_partOf rfl rfl rfl (by decide +kernel) ⟨Nat.le_of_ble_eq_true rfl, Nat.le_of_ble_eq_true rfl⟩ rfl (Nat.le_of_ble_eq_true rfl) ⟨Nat.le_of_ble_eq_true rfl, Nat.le_of_ble_eq_true rfl⟩ (fun v12 => ?_)
    exact G.x_lret E dX7_distance_21 rfl (Nat.le_of_ble_eq_true rfl) (Nat.le_of_ble_eq_true rfl) rfl rfl
  · refine G.aload_n E dX7_distance_22 0 rfl rfl ?_
    refine G.getR (T := TX7) (N := 7) (C := RX7) (q0 := 0) (i := 1) E dX7_distance_23 iw_X7_distance_7 (wsC_at0 _ _ _) rfl (by decide) rfl (List.mem_of_getElem? (i := 1) rfl) ?_
    refine G.iload_n E dX7_distance_26 1 rfl rfl ?_
    refine G.callSi (n := 1) (As := [.int a0]) E dX7_distance_27 (fun _ hv => c_X7_setOf E.wf hv) gX7_distance_X7_setOf rfl rfl rfl (by decide +kernel) ⟨Nat.le_of_ble_eq_true rfl, Nat.le_of_ble_eq_true rfl⟩ rfl (Nat.le_of_ble_eq_true rfl) ⟨Nat.le_of_ble_eq_true rfl, Nat.le_of_ble_eq_true rfl⟩ (fun v5 => ?_)
    refine G.iload_n E dX7_distance_30 2 rfl rfl ?_
    refine G.callSi (n := 1) (As := [.int a1]) E dX7_distance_31 (fun _ hv => c_X7_setOf E.wf hv) gX7_distance_X7_setOf rfl rfl rfl (by decide +kernel) ⟨Nat.le_of_ble_eq_true rfl, Nat.le_of_ble_eq_true rfl⟩ rfl (Nat.le_of_ble_eq_true rfl) ⟨Nat.le_of_ble_eq_true rfl, Nat.le_of_ble_eq_true rfl⟩ (fun v6 => ?_)
    refine G.ior E dX7_distance_34 ?_
    refine G.callVls (n := 1) (T := TX0) (N := 9) (C := RX0) (a := h 5) (q0 := 5) (As := [.int (v5 ||| v6)]) E dX7_distance_35 (fun _ _ hv => c_X0_count E.wf hv) gX7_distance_X0_count rfl rfl rfl (by decide +kernel) ⟨Nat.le_of_ble_eq_true rfl, Nat.le_of_ble_eq_true rfl⟩ (wsC_at5 _ _ _) rfl rfl (Nat.le_of_ble_eq_true rfl) ⟨Nat.le_of_ble_eq_true rfl, Nat.le_of_ble_eq_true rfl⟩ (fun v7 s8 => ?_)
    refine G.aload_n E dX7_distance_38 0 rfl rfl ?_
    refine G.callVls (n := 0) (T := TX7) (N := 7) (C := RX7) (a := h 0) (q0 := 0) (As := []) E dX7_distance_39 (fun _ _ hv => c_X7_countTrees E.wf hv) gX7_distance_X7_countTrees rfl rfl rfl (by decide +kernel) ⟨Nat.le_of_ble_eq_true rfl, Nat.le_of_ble_eq_true rfl⟩ (wsC_at0 _ _ _) rfl rfl (Nat.le_of_ble_eq_true rfl) ⟨Nat.le_of_ble_eq_true rfl, Nat.le_of_ble_eq_true rfl⟩ (fun v9 s10 => ?_)
    refine G.iload_n E dX7_distance_42 3 rfl rfl ?_
    refine G.callSl (n := 3) (As := [.long v7, .long v9, .int a2]) E dX7_distance_43 (fun _ hv => c_X7_partOf E.wf hv) gX7_distance_X7_partOf rfl rfl rfl (by decide +kernel) ⟨Nat.le_of_ble_eq_true rfl, Nat.le_of_ble_eq_true rfl⟩ rfl (Nat.le_of_ble_eq_true rfl) ⟨Nat.le_of_ble_eq_true rfl, Nat.le_of_ble_eq_true rfl⟩ (fun v11 => ?_)
    exact G.x_lret E dX7_distance_46 rfl (Nat.le_of_ble_eq_true rfl) (Nat.le_of_ble_eq_true rfl) rfl rfl
set_option maxHeartbeats 4000000 in
set_option maxRecDepth 100000 in
theorem iw_X7_erased_7 : ∀ w ∈ u_ws RX7 TX7 7, w ∈ wsX7_erased := fun _ h => List.mem_cons_of_mem _ (List.mem_append_left _ (List.mem_append_left _ (List.mem_append_left _ (List.mem_append_left _ (List.mem_append_right _ h)))))
set_option maxHeartbeats 4000000 in
set_option maxRecDepth 100000 in
theorem ia_X7_erased_87 : ∀ w ∈ (vx_atS RX7 87 "java/lang/IllegalArgumentException" ["java/lang/RuntimeException", "java/lang/Exception"]).filter goodWord, w ∈ wsX7_erased := fun w h => List.mem_cons_of_mem _ (List.mem_append_right _ h)
set_option maxHeartbeats 4000000 in
set_option maxRecDepth 100000 in
theorem ia_X7_erased_187 : ∀ w ∈ (vx_atS RX7 187 "java/lang/IndexOutOfBoundsException" ["java/lang/RuntimeException", "java/lang/Exception"]).filter goodWord, w ∈ wsX7_erased := fun w h => List.mem_cons_of_mem _ (List.mem_append_left _ (List.mem_append_right _ h))
abbrev rm_X7_erased : Room := { frames := 8, cells := 1, slots := 6, locals := 120 }
noncomputable def f_X7_erased (N : Nat) (σ : Wd) (a0 : Int32) : Option ((Nat ⊕ Int32) × Wd) :=
  bP (f_X6_hasStrangeNode N σ a0) fun v1 =>
  if v1 = 0 then (
    bP (f_X6_isWritten N a0) fun v2 =>
    if v2 = 0 then (
      some (.inl 2, σ))
    else (
      bS (f_X6_withoutLoops N σ a0) fun v3 s4 =>
      some (.inr v3, s4)))
  else (
    some (.inl 1, σ))
set_option maxHeartbeats 4000000 in
set_option maxRecDepth 100000 in
theorem c_X7_erased {l : Launch} {D : va_G} {cy : Nat → ClassId} {h : Nat → Nat} {N : Nat} {σ : Wd} {a0 : Int32} {r : (Nat ⊕ Int32) × Wd} (hW : WF (wsC cy h) (adC h)) (hfl : l.stackTraces = false) (hr : f_X7_erased N σ a0 = some r) : ConX l D cy (wsC cy h) (adC h) yX7_erased wsX7_erased rm_X7_erased 1 6 [.ref (h 0), .int a0] (ooI r) σ r.2 := by
  refine ConX.of (lv0 := [(0, .ref (h 0)), (1, .int a0)]) (σ := σ) ooI (fun r => r.2) (by decide) rfl rfl (Nat.le_of_ble_eq_true rfl) rfl hW hfl hr (fun p e s m args below meth c E EX0 => ?_)
  unfold f_X7_erased
  refine G.aload_n E dX7_erased_0 0 rfl rfl ?_
  refine G.getR (T := TX7) (N := 7) (C := RX7) (q0 := 0) (i := 3) E dX7_erased_1 iw_X7_erased_7 (wsC_at0 _ _ _) rfl (by decide) rfl (List.mem_of_getElem? (i := 5) rfl) ?_
  refine G.iload_n E dX7_erased_4 1 rfl rfl ?_
  refine G.callVi (n := 1) (T := TX6) (N := 2) (C := RX6) (a := h 26) (q0 := 26) (As := [.int a0]) E dX7_erased_5 (fun _ hv => c_X6_hasStrangeNode E.wf hv) gX7_erased_X6_hasStrangeNode rfl rfl rfl (by decide +kernel) ⟨Nat.le_of_ble_eq_true rfl, Nat.le_of_ble_eq_true rfl⟩ (wsC_at26 _ _ _) rfl rfl (Nat.le_of_ble_eq_true rfl) ⟨Nat.le_of_ble_eq_true rfl, Nat.le_of_ble_eq_true rfl⟩ (fun v1 => ?_)
  refine G.if_eq (tgt := 21) E dX7_erased_8 (by decide) ?_ ?_
  · refine G.aload_n E dX7_erased_21 0 rfl rfl ?_
    refine G.getR (T := TX7) (N := 7) (C := RX7) (q0 := 0) (i := 3) E dX7_erased_22 iw_X7_erased_7 (wsC_at0 _ _ _) rfl (by decide) rfl (List.mem_of_getElem? (i := 5) rfl) ?_
    refine G.iload_n E dX7_erased_25 1 rfl rfl ?_
    refine G.callVi (n := 1) (T := TX6) (N := 2) (C := RX6) (a := h 26) (q0 := 26) (As := [.int a0]) E dX7_erased_26 (fun _ hv => c_X6_isWritten E.wf hv) gX7_erased_X6_isWritten rfl rfl rfl (by decide +kernel) ⟨Nat.le_of_ble_eq_true rfl, Nat.le_of_ble_eq_true rfl⟩ (wsC_at26 _ _ _) rfl rfl (Nat.le_of_ble_eq_true rfl) ⟨Nat.le_of_ble_eq_true rfl, Nat.le_of_ble_eq_true rfl⟩ (fun v2 => ?_)
    refine G.if_ne (tgt := 42) E dX7_erased_29 (by decide) ?_ ?_
    · exact G.throwS (q := 2) (text := "a walk is of 1 to 9 digits, none of them 0") (cls := "java/lang/IllegalArgumentException") (names := ["java/lang/RuntimeException", "java/lang/Exception"]) E EX0 (by decide +kernel) (by decide +kernel) (List.mem_of_getElem? (i := 3) rfl) (List.mem_of_getElem? (i := 4) rfl) (by decide +kernel) ia_X7_erased_87 atg_87 (otw_83_87) dX7_erased_32 dX7_erased_35 dX7_erased_36 dX7_erased_38 dX7_erased_41 ⟨Nat.le_of_ble_eq_true rfl, Nat.le_of_ble_eq_true rfl⟩ ⟨Nat.le_of_ble_eq_true rfl, Nat.le_of_ble_eq_true rfl⟩ rfl rfl rfl (Nat.le_of_ble_eq_true rfl) (Nat.le_of_ble_eq_true rfl)
    · refine G.aload_n E dX7_erased_42 0 rfl rfl ?_
      refine G.getR (T := TX7) (N := 7) (C := RX7) (q0 := 0) (i := 3) E dX7_erased_43 iw_X7_erased_7 (wsC_at0 _ _ _) rfl (by decide) rfl (List.mem_of_getElem? (i := 5) rfl) ?_
      refine G.iload_n E dX7_erased_46 1 rfl rfl ?_
      refine G.callVis (n := 1) (T := TX6) (N := 2) (C := RX6) (a := h 26) (q0 := 26) (As := [.int a0]) E dX7_erased_47 (fun _ _ hv => c_X6_withoutLoops E.wf hv) gX7_erased_X6_withoutLoops rfl rfl rfl (by decide +kernel) ⟨Nat.le_of_ble_eq_true rfl, Nat.le_of_ble_eq_true rfl⟩ (wsC_at26 _ _ _) rfl rfl (Nat.le_of_ble_eq_true rfl) ⟨Nat.le_of_ble_eq_true rfl, Nat.le_of_ble_eq_true rfl⟩ (fun v3 s4 => ?_)
      exact G.x_iret E dX7_erased_50 rfl (Nat.le_of_ble_eq_true rfl) (Nat.le_of_ble_eq_true rfl) rfl rfl
  · exact G.throwS (q := 1) (text := "there is no such node") (cls := "java/lang/IndexOutOfBoundsException") (names := ["java/lang/RuntimeException", "java/lang/Exception"]) E EX0 (by decide +kernel) (by decide +kernel) (List.mem_of_getElem? (i := 1) rfl) (List.mem_of_getElem? (i := 2) rfl) (by decide +kernel) ia_X7_erased_187 atg_187 (otw_183_187) dX7_erased_11 dX7_erased_14 dX7_erased_15 dX7_erased_17 dX7_erased_20 ⟨Nat.le_of_ble_eq_true rfl, Nat.le_of_ble_eq_true rfl⟩ ⟨Nat.le_of_ble_eq_true rfl, Nat.le_of_ble_eq_true rfl⟩ rfl rfl rfl (Nat.le_of_ble_eq_true rfl) (Nat.le_of_ble_eq_true rfl)
set_option maxHeartbeats 4000000 in
set_option maxRecDepth 100000 in
theorem iw_X7_keeps_7 : ∀ w ∈ u_ws RX7 TX7 7, w ∈ wsX7_keeps := fun _ h => List.mem_cons_of_mem _ (List.mem_append_left _ (List.mem_append_left _ (List.mem_append_left _ (List.mem_append_right _ h))))
abbrev rm_X7_keeps : Room := { frames := 16, cells := 0, slots := 0, locals := 399 }
noncomputable def fl_X7_keeps_18 (N : Nat) (x1 : Int64) (x3 : Int32) (K : Wd → Option (Int32 × Wd)) : Nat → Int32 → Wd → Option (Int32 × Wd)
  | 0, _, _ => none
  | n + 1, x4, s0 =>
    if 7 ≤ x4 then (
      K s0)
    else (
      bP (f_X1_hasPair N s0 x3 x4) fun v4 =>
      jn (fun (s5 : Wd) => ((
        fl_X7_keeps_18 N x1 x3 K n (x4 + 1) s5) : Option (Int32 × Wd))) fun j76 =>
      if v4 = 0 then (
        j76 s0)
      else (
        bS (f_X7_upperOfAnswer N s0 x3 x4) fun v6 s7 =>
        bP (f_X7_partOf N v6 x1 0) fun v8 =>
        bP (f_X7_partOf N v6 x1 1) fun v9 =>
        bP (f_X1_isKept N s7 x3 x4 v8 v9) fun v10 =>
        if v10 = 0 then (
          some (0, s7))
        else (
          j76 s7)))
set_option maxHeartbeats 4000000 in
set_option maxRecDepth 100000 in
theorem gl_X7_keeps_18 {N : Nat} {x1 : Int64} {x3 : Int32} {K : Wd → Option (Int32 × Wd)} (E : EV p s m args meth c cX7_keeps 7 RX7 wsX7_keeps (some .boolean) D cy (wsC cy h) (adC h)) (hK : ∀ (s' : Wd), G p l e (headSpec wsX7_keeps rm_X7_keeps).room s m args below meth c 7 0 0 D (wsC cy h) (adC h) (QM D (wsC cy h) (adC h) below args s 0 0 (fun r : Int32 × Wd => some (.int r.1)) (fun r => r.2)) 82 [(0, .ref (h 0)), (1, .long x1), (3, .int x3)] [] s' (K s')) :
  ∀ (n : Nat) (x4 : Int32) (s0 : Wd), G p l e (headSpec wsX7_keeps rm_X7_keeps).room s m args below meth c 7 0 0 D (wsC cy h) (adC h) (QM D (wsC cy h) (adC h) below args s 0 0 (fun r : Int32 × Wd => some (.int r.1)) (fun r => r.2)) 18 [(0, .ref (h 0)), (1, .long x1), (3, .int x3), (4, .int x4)] [] s0 (fl_X7_keeps_18 N x1 x3 K n x4 s0) := by
  intro n
  induction n with
  | zero => intros; exact G.no
  | succ n ih =>
    intro x4 s0
    rw [fl_X7_keeps_18]
    refine G.iload E dX7_keeps_18 3 rfl ?_
    refine G.bipush (v := 7) E dX7_keeps_20 (by decide) ?_
    refine G.icmp_ge (tgt := 82) E dX7_keeps_22 (by decide) ?_ ?_
    · refine G.loc [0, 1, 2] rfl ?_
      exact hK s0
    · refine G.aload_n E dX7_keeps_25 0 rfl rfl ?_
      refine G.getR (T := TX7) (N := 7) (C := RX7) (q0 := 0) (i := 5) E dX7_keeps_26 iw_X7_keeps_7 (wsC_at0 _ _ _) rfl (by decide) rfl (List.mem_of_getElem? (i := 1) rfl) ?_
      refine G.iload_n E dX7_keeps_29 2 rfl rfl ?_
      refine G.iload E dX7_keeps_30 3 rfl ?_
      refine G.callVi (n := 2) (T := TX1) (N := 3) (C := RX1) (a := h 40) (q0 := 40) (As := [.int x3, .int x4]) E dX7_keeps_32 (fun _ hv => c_X1_hasPair E.wf hv) gX7_keeps_X1_hasPair rfl rfl rfl (by decide +kernel) ⟨Nat.le_of_ble_eq_true rfl, Nat.le_of_ble_eq_true rfl⟩ (wsC_at40 _ _ _) rfl rfl (Nat.le_of_ble_eq_true rfl) ⟨Nat.le_of_ble_eq_true rfl, Nat.le_of_ble_eq_true rfl⟩ (fun v4 => ?_)
      refine G.jn (P := fun j => ∀ (s5 : Wd), G p l e (headSpec wsX7_keeps rm_X7_keeps).room s m args below meth c 7 0 0 D (wsC cy h) (adC h) (QM D (wsC cy h) (adC h) below args s 0 0 (fun r : Int32 × Wd => some (.int r.1)) (fun r => r.2)) 76 [(0, .ref (h 0)), (1, .long x1), (3, .int x3), (4, .int x4)] [] s5 (j s5)) ?_ (fun j76 hj76 => ?_)
      · intro s5
        refine G.iinc (v := x4 + 1) (lv' := [(4, .int (x4 + 1)), (0, .ref (h 0)), (1, .long x1), (3, .int x3)]) E dX7_keeps_76 3 rfl rfl (by decide) rfl ?_
        refine G.goto (tgt := 18) E dX7_keeps_79 (by decide) ?_
        refine G.loc [1, 2, 3, 0] rfl ?_
        exact ih (x4 + 1) s5
      · refine G.if_eq (tgt := 76) E dX7_keeps_35 (by decide) ?_ ?_
        · refine G.loc [0, 1, 2, 3] rfl ?_
          exact hj76 s0
        · refine G.aload_n E dX7_keeps_38 0 rfl rfl ?_
          refine G.iload_n E dX7_keeps_39 2 rfl rfl ?_
          refine G.iload E dX7_keeps_40 3 rfl ?_
          refine G.callVls (n := 2) (T := TX7) (N := 7) (C := RX7) (a := h 0) (q0 := 0) (As := [.int x3, .int x4]) E dX7_keeps_42 (fun _ _ hv => c_X7_upperOfAnswer E.wf hv) gX7_keeps_X7_upperOfAnswer rfl rfl rfl (by decide +kernel) ⟨Nat.le_of_ble_eq_true rfl, Nat.le_of_ble_eq_true rfl⟩ (wsC_at0 _ _ _) rfl rfl (Nat.le_of_ble_eq_true rfl) ⟨Nat.le_of_ble_eq_true rfl, Nat.le_of_ble_eq_true rfl⟩ (fun v6 s7 => ?_)
          refine G.lstore (lv' := [(5, .long v6), (0, .ref (h 0)), (1, .long x1), (3, .int x3), (4, .int x4)]) E dX7_keeps_45 (by decide) rfl ?_
          refine G.aload_n E dX7_keeps_47 1 rfl rfl ?_
          refine G.getR (T := TX7) (N := 7) (C := RX7) (q0 := 0) (i := 5) E dX7_keeps_48 iw_X7_keeps_7 (wsC_at0 _ _ _) rfl (by decide) rfl (List.mem_of_getElem? (i := 1) rfl) ?_
          refine G.iload_n E dX7_keeps_51 3 rfl rfl ?_
          refine G.iload E dX7_keeps_52 4 rfl ?_
          refine G.lload E dX7_keeps_54 0 rfl ?_
          refine G.lload_n E dX7_keeps_56 2 rfl rfl ?_
          refine G.iconst (v := 0) E dX7_keeps_57 (by decide) ?_
          refine G.callSl (n := 3) (As := [.long v6, .long x1, .int 0]) E dX7_keeps_58 (fun _ hv => c_X7_partOf E.wf hv) gX7_keeps_X7_partOf rfl rfl rfl (by decide +kernel) ⟨Nat.le_of_ble_eq_true rfl, Nat.le_of_ble_eq_true rfl⟩ rfl (Nat.le_of_ble_eq_true rfl) ⟨Nat.le_of_ble_eq_true rfl, Nat.le_of_ble_eq_true rfl⟩ (fun v8 => ?_)
          refine G.lload E dX7_keeps_61 0 rfl ?_
          refine G.lload_n E dX7_keeps_63 2 rfl rfl ?_
          refine G.iconst (v := 1) E dX7_keeps_64 (by decide) ?_
          refine G.callSl (n := 3) (As := [.long v6, .long x1, .int 1]) E dX7_keeps_65 (fun _ hv => c_X7_partOf E.wf hv) gX7_keeps_X7_partOf rfl rfl rfl (by decide +kernel) ⟨Nat.le_of_ble_eq_true rfl, Nat.le_of_ble_eq_true rfl⟩ rfl (Nat.le_of_ble_eq_true rfl) ⟨Nat.le_of_ble_eq_true rfl, Nat.le_of_ble_eq_true rfl⟩ (fun v9 => ?_)
          refine G.callVi (n := 4) (T := TX1) (N := 3) (C := RX1) (a := h 40) (q0 := 40) (As := [.int x3, .int x4, .long v8, .long v9]) E dX7_keeps_68 (fun _ hv => c_X1_isKept E.wf hv) gX7_keeps_X1_isKept rfl rfl rfl (by decide +kernel) ⟨Nat.le_of_ble_eq_true rfl, Nat.le_of_ble_eq_true rfl⟩ (wsC_at40 _ _ _) rfl rfl (Nat.le_of_ble_eq_true rfl) ⟨Nat.le_of_ble_eq_true rfl, Nat.le_of_ble_eq_true rfl⟩ (fun v10 => ?_)
          refine G.if_ne (tgt := 76) E dX7_keeps_71 (by decide) ?_ ?_
          · refine G.iconst (v := 0) E dX7_keeps_74 (by decide) ?_
            exact G.zretc E dX7_keeps_75 rfl rfl rfl
          · refine G.loc [1, 2, 3, 4] rfl ?_
            exact hj76 s7
noncomputable def fl_X7_keeps_7 (N : Nat) (x1 : Int64) (K : Wd → Option (Int32 × Wd)) : Nat → Int32 → Wd → Option (Int32 × Wd)
  | 0, _, _ => none
  | n + 1, x3, s0 =>
    if 7 ≤ x3 then (
      K s0)
    else (
      lI (x3 + 1) fun v3 =>
      fl_X7_keeps_18 N x1 x3 (fun s11 =>
        fl_X7_keeps_7 N x1 K n (x3 + 1) s11) N v3 s0)
set_option maxHeartbeats 4000000 in
set_option maxRecDepth 100000 in
theorem gl_X7_keeps_7 {N : Nat} {x1 : Int64} {K : Wd → Option (Int32 × Wd)} (E : EV p s m args meth c cX7_keeps 7 RX7 wsX7_keeps (some .boolean) D cy (wsC cy h) (adC h)) (hK : ∀ (s' : Wd), G p l e (headSpec wsX7_keeps rm_X7_keeps).room s m args below meth c 7 0 0 D (wsC cy h) (adC h) (QM D (wsC cy h) (adC h) below args s 0 0 (fun r : Int32 × Wd => some (.int r.1)) (fun r => r.2)) 88 [] [] s' (K s')) :
  ∀ (n : Nat) (x3 : Int32) (s0 : Wd), G p l e (headSpec wsX7_keeps rm_X7_keeps).room s m args below meth c 7 0 0 D (wsC cy h) (adC h) (QM D (wsC cy h) (adC h) below args s 0 0 (fun r : Int32 × Wd => some (.int r.1)) (fun r => r.2)) 7 [(0, .ref (h 0)), (1, .long x1), (3, .int x3)] [] s0 (fl_X7_keeps_7 N x1 K n x3 s0) := by
  intro n
  induction n with
  | zero => intros; exact G.no
  | succ n ih =>
    intro x3 s0
    rw [fl_X7_keeps_7]
    refine G.iload_n E dX7_keeps_7 2 rfl rfl ?_
    refine G.bipush (v := 7) E dX7_keeps_8 (by decide) ?_
    refine G.icmp_ge (tgt := 88) E dX7_keeps_10 (by decide) ?_ ?_
    · refine G.loc [] rfl ?_
      exact hK s0
    · refine G.iload_n E dX7_keeps_13 2 rfl rfl ?_
      refine G.iconst (v := 1) E dX7_keeps_14 (by decide) ?_
      refine G.iadd E dX7_keeps_15 ?_
      refine G.letI (fun v3 => ?_)
      refine G.istore (lv' := [(4, .int v3), (0, .ref (h 0)), (1, .long x1), (3, .int x3)]) E dX7_keeps_16 (by decide) rfl ?_
      refine G.loc [1, 2, 3, 0] rfl ?_
      refine gl_X7_keeps_18 E (fun s11 => ?_) N _ _
      refine G.iinc (v := x3 + 1) (lv' := [(3, .int (x3 + 1)), (0, .ref (h 0)), (1, .long x1)]) E dX7_keeps_82 2 rfl rfl (by decide) rfl ?_
      refine G.goto (tgt := 7) E dX7_keeps_85 (by decide) ?_
      refine G.loc [1, 2, 0] rfl ?_
      exact ih (x3 + 1) s11
noncomputable def f_X7_keeps (N : Nat) (σ : Wd) : Option (Int32 × Wd) :=
  bS (f_X7_countRest N σ) fun v1 s2 =>
  fl_X7_keeps_7 N v1 (fun s12 =>
    some (1, s12)) N 0 s2
set_option maxHeartbeats 4000000 in
set_option maxRecDepth 100000 in
theorem c_X7_keeps {l : Launch} {D : va_G} {cy : Nat → ClassId} {h : Nat → Nat} {N : Nat} {σ : Wd} {r : Int32} {σ1 : Wd} (hW : WF (wsC cy h) (adC h)) (hr : f_X7_keeps N σ = some (r, σ1)) : Con l D cy (wsC cy h) (adC h) yX7_keeps wsX7_keeps rm_X7_keeps 0 0 [.ref (h 0)] (some (.int r)) σ σ1 := by
  refine Con.of (ρ := Int32 × Wd) (lv0 := [(0, .ref (h 0))]) (σ := σ) (fun r : Int32 × Wd => some (.int r.1)) (fun r => r.2) (by decide) rfl rfl (Nat.le_of_ble_eq_true rfl) rfl hW hr (fun p e s m args below meth c E => ?_)
  unfold f_X7_keeps
  refine G.aload_n E dX7_keeps_0 0 rfl rfl ?_
  refine G.callVls (n := 0) (T := TX7) (N := 7) (C := RX7) (a := h 0) (q0 := 0) (As := []) E dX7_keeps_1 (fun _ _ hv => c_X7_countRest E.wf hv) gX7_keeps_X7_countRest rfl rfl rfl (by decide +kernel) ⟨Nat.le_of_ble_eq_true rfl, Nat.le_of_ble_eq_true rfl⟩ (wsC_at0 _ _ _) rfl rfl (Nat.le_of_ble_eq_true rfl) ⟨Nat.le_of_ble_eq_true rfl, Nat.le_of_ble_eq_true rfl⟩ (fun v1 s2 => ?_)
  refine G.lstore_n (lv' := [(1, .long v1), (0, .ref (h 0))]) E dX7_keeps_4 rfl (by decide) rfl ?_
  refine G.iconst (v := 0) E dX7_keeps_5 (by decide) ?_
  refine G.istore_n (lv' := [(3, .int 0), (1, .long v1), (0, .ref (h 0))]) E dX7_keeps_6 rfl (by decide) rfl ?_
  refine G.loc [2, 1, 0] rfl ?_
  refine gl_X7_keeps_7 E (fun s12 => ?_) N _ _
  refine G.iconst (v := 1) E dX7_keeps_88 (by decide) ?_
  exact G.zretc E dX7_keeps_89 rfl rfl rfl
end TR
