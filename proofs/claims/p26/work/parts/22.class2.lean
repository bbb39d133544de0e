section TR
variable {p : Program} {l : Launch} {e : Env} {s : State} {m : MethodId} {args : Array Value} {below : List Frame} {meth : Method} {c : Code} {D : va_G} {cy : Nat → ClassId} {h : Nat → Nat}

set_option maxHeartbeats 4000000 in
set_option maxRecDepth 100000 in
theorem iw_X4_setConductance_4 : ∀ w ∈ u_ws RX4 TX4 8, w ∈ wsX4_setConductance := fun _ h => List.mem_cons_of_mem _ (List.mem_append_right _ h)
abbrev rm_X4_setConductance : Room := { frames := 0, cells := 0, slots := 0, locals := 0 }
noncomputable def f_X4_setConductance (N : Nat) (σ : Wd) (a0 : Int32) (a1 : Int32) : Option (Wd) :=
  if a0 < 0 then (
    some σ)
  else (
    if 20 ≤ a0 then (
      some σ)
    else (
      aI σ 4 20 a0 a1 fun s1 =>
      some s1))
set_option maxHeartbeats 4000000 in
set_option maxRecDepth 100000 in
theorem c_X4_setConductance {l : Launch} {D : va_G} {cy : Nat → ClassId} {h : Nat → Nat} {N : Nat} {σ : Wd} {a0 : Int32} {a1 : Int32} {σ1 : Wd} (hW : WF (wsC cy h) (adC h)) (hr : f_X4_setConductance N σ a0 a1 = some σ1) : Con l D cy (wsC cy h) (adC h) yX4_setConductance wsX4_setConductance rm_X4_setConductance 0 0 [.ref (h 1), .int a0, .int a1] (none) σ σ1 := by
  refine Con.of (ρ := Wd) (lv0 := [(0, .ref (h 1)), (1, .int a0), (2, .int a1)]) (σ := σ) (fun _ : Wd => none) (fun r => r) (by decide) rfl rfl (Nat.le_of_ble_eq_true rfl) rfl hW hr (fun p e s m args below meth c E => ?_)
  unfold f_X4_setConductance
  refine G.iload_n E dX4_setConductance_0 1 rfl rfl ?_
  refine G.if_lt (tgt := 17) E dX4_setConductance_1 (by decide) ?_ ?_
  · exact G.vret E dX4_setConductance_17 rfl rfl
  · refine G.iload_n E dX4_setConductance_4 1 rfl rfl ?_
    refine G.bipush (v := 20) E dX4_setConductance_5 (by decide) ?_
    refine G.icmp_ge (tgt := 17) E dX4_setConductance_7 (by decide) ?_ ?_
    · exact G.vret E dX4_setConductance_17 rfl rfl
    · refine G.aload_n E dX4_setConductance_10 0 rfl rfl ?_
      refine G.getR (T := TX4) (N := 8) (C := RX4) (q0 := 1) (i := 7) E dX4_setConductance_11 iw_X4_setConductance_4 (wsC_at1 _ _ _) rfl (by decide) rfl (List.mem_of_getElem? (i := 1) rfl) ?_
      refine G.iload_n E dX4_setConductance_14 1 rfl rfl ?_
      refine G.iload_n E dX4_setConductance_15 2 rfl rfl ?_
      refine G.iast (q0 := 4) E dX4_setConductance_16 (wsC_at4 _ _ _) (fun j => wsC_set4 _ _ _ _ j) (fun s1 => ?_)
      exact G.vret E dX4_setConductance_17 rfl rfl
set_option maxHeartbeats 4000000 in
set_option maxRecDepth 100000 in
theorem iw_X4_addNode_4 : ∀ w ∈ u_ws RX4 TX4 8, w ∈ wsX4_addNode := fun _ h => List.mem_cons_of_mem _ (List.mem_append_right _ h)
abbrev rm_X4_addNode : Room := { frames := 1, cells := 0, slots := 0, locals := 20 }
noncomputable def f_X4_addNode (N : Nat) (σ : Wd) (a0 : Int32) : Option (Int32 × Wd) :=
  gI σ 1 3 fun v1 =>
  gI σ 1 3 fun v2 =>
  wI σ 1 3 (v2 + 1) fun s3 =>
  gI s3 1 0 fun v4 =>
  bP (f_X7_setOf N v1) fun v5 =>
  wI s3 1 0 (v4 ||| v5) fun s6 =>
  if a0 = 0 then (
    some (v1, s6))
  else (
    gI s6 1 1 fun v7 =>
    bP (f_X7_setOf N v1) fun v8 =>
    wI s6 1 1 (v7 ||| v8) fun s9 =>
    some (v1, s9))
set_option maxHeartbeats 4000000 in
set_option maxRecDepth 100000 in
theorem c_X4_addNode {l : Launch} {D : va_G} {cy : Nat → ClassId} {h : Nat → Nat} {N : Nat} {σ : Wd} {a0 : Int32} {r : Int32} {σ1 : Wd} (hW : WF (wsC cy h) (adC h)) (hr : f_X4_addNode N σ a0 = some (r, σ1)) : Con l D cy (wsC cy h) (adC h) yX4_addNode wsX4_addNode rm_X4_addNode 0 0 [.ref (h 1), .int a0] (some (.int r)) σ σ1 := by
  refine Con.of (ρ := Int32 × Wd) (lv0 := [(0, .ref (h 1)), (1, .int a0)]) (σ := σ) (fun r : Int32 × Wd => some (.int r.1)) (fun r => r.2) (by decide) rfl rfl (Nat.le_of_ble_eq_true rfl) rfl hW hr (fun p e s m args below meth c E => ?_)
  unfold f_X4_addNode
  refine G.aload_n E dX4_addNode_0 0 rfl rfl ?_
  refine G.getI (T := TX4) (N := 8) (C := RX4) (q0 := 1) (i := 3) E dX4_addNode_1 iw_X4_addNode_4 (wsC_at1 _ _ _) rfl (by decide) rfl (List.mem_of_getElem? (i := 1) rfl) (fun v1 => ?_)
  refine G.istore_n (lv' := [(2, .int v1), (0, .ref (h 1)), (1, .int a0)]) E dX4_addNode_4 rfl (by decide) rfl ?_
  refine G.aload_n E dX4_addNode_5 1 rfl rfl ?_
  refine G.dup E dX4_addNode_6 rfl ?_
  refine G.getI (T := TX4) (N := 8) (C := RX4) (q0 := 1) (i := 3) E dX4_addNode_7 iw_X4_addNode_4 (wsC_at1 _ _ _) rfl (by decide) rfl (List.mem_of_getElem? (i := 1) rfl) (fun v2 => ?_)
  refine G.iconst (v := 1) E dX4_addNode_10 (by decide) ?_
  refine G.iadd E dX4_addNode_11 ?_
  refine G.putI (T := TX4) (N := 8) (C := RX4) (q0 := 1) (i := 3) (ty := .int) E dX4_addNode_12 iw_X4_addNode_4 tyX4 tyX4_ok nmX4 (wsC_at1 _ _ _) rfl (by decide) (List.mem_of_getElem? (i := 1) rfl) rfl (by decide +kernel) rfl rfl (Nat.le_of_ble_eq_true rfl) (wsC_set1_3 _ _ _ _) (fun s3 => ?_)
  refine G.aload_n E dX4_addNode_15 1 rfl rfl ?_
  refine G.dup E dX4_addNode_16 rfl ?_
  refine G.getI (T := TX4) (N := 8) (C := RX4) (q0 := 1) (i := 0) E dX4_addNode_17 iw_X4_addNode_4 (wsC_at1 _ _ _) rfl (by decide) rfl (List.mem_of_getElem? (i := 2) rfl) (fun v4 => ?_)
  refine G.iload_n E dX4_addNode_20 0 rfl rfl ?_
  refine G.callNi (n := 1) (As := [.int v1]) E dX4_addNode_21 (fun _ hv => c_X7_setOf E.wf hv) gX4_addNode_X7_setOf_n55 (List.mem_of_getElem? (i := 10) rfl) (List.mem_of_getElem? (i := 5) rfl) (List.mem_of_getElem? (i := 4) rfl) rfl rfl rfl (by decide +kernel) ⟨Nat.le_of_ble_eq_true rfl, Nat.le_of_ble_eq_true rfl⟩ rfl (Nat.le_of_ble_eq_true rfl) ⟨Nat.le_of_ble_eq_true rfl, Nat.le_of_ble_eq_true rfl⟩ (fun v5 => ?_)
  refine G.ior E dX4_addNode_24 ?_
  refine G.putI (T := TX4) (N := 8) (C := RX4) (q0 := 1) (i := 0) (ty := .int) E dX4_addNode_25 iw_X4_addNode_4 tyX4 tyX4_ok nmX4 (wsC_at1 _ _ _) rfl (by decide) (List.mem_of_getElem? (i := 2) rfl) rfl (by decide +kernel) rfl rfl (Nat.le_of_ble_eq_true rfl) (wsC_set1_0 _ _ _ _) (fun s6 => ?_)
  refine G.iload_n E dX4_addNode_28 2 rfl rfl ?_
  refine G.if_eq (tgt := 45) E dX4_addNode_29 (by decide) ?_ ?_
  · refine G.iload_n E dX4_addNode_45 0 rfl rfl ?_
    exact G.iret E dX4_addNode_46 rfl rfl
  · refine G.aload_n E dX4_addNode_32 1 rfl rfl ?_
    refine G.dup E dX4_addNode_33 rfl ?_
    refine G.getI (T := TX4) (N := 8) (C := RX4) (q0 := 1) (i := 1) E dX4_addNode_34 iw_X4_addNode_4 (wsC_at1 _ _ _) rfl (by decide) rfl (List.mem_of_getElem? (i := 3) rfl) (fun v7 => ?_)
    refine G.iload_n E dX4_addNode_37 0 rfl rfl ?_
    refine G.callNi (n := 1) (As := [.int v1]) E dX4_addNode_38 (fun _ hv => c_X7_setOf E.wf hv) gX4_addNode_X7_setOf_n55 (List.mem_of_getElem? (i := 10) rfl) (List.mem_of_getElem? (i := 5) rfl) (List.mem_of_getElem? (i := 4) rfl) rfl rfl rfl (by decide +kernel) ⟨Nat.le_of_ble_eq_true rfl, Nat.le_of_ble_eq_true rfl⟩ rfl (Nat.le_of_ble_eq_true rfl) ⟨Nat.le_of_ble_eq_true rfl, Nat.le_of_ble_eq_true rfl⟩ (fun v8 => ?_)
    refine G.ior E dX4_addNode_41 ?_
    refine G.putI (T := TX4) (N := 8) (C := RX4) (q0 := 1) (i := 1) (ty := .int) E dX4_addNode_42 iw_X4_addNode_4 tyX4 tyX4_ok nmX4 (wsC_at1 _ _ _) rfl (by decide) (List.mem_of_getElem? (i := 3) rfl) rfl (by decide +kernel) rfl rfl (Nat.le_of_ble_eq_true rfl) (wsC_set1_1 _ _ _ _) (fun s9 => ?_)
    refine G.iload_n E dX4_addNode_45 0 rfl rfl ?_
    exact G.iret E dX4_addNode_46 rfl rfl
set_option maxHeartbeats 4000000 in
set_option maxRecDepth 100000 in
theorem iw_X4_addWire_4 : ∀ w ∈ u_ws RX4 TX4 8, w ∈ wsX4_addWire := fun _ h => List.mem_cons_of_mem _ (List.mem_append_right _ h)
abbrev rm_X4_addWire : Room := { frames := 1, cells := 0, slots := 0, locals := 20 }
noncomputable def f_X4_addWire (N : Nat) (σ : Wd) (a0 : Int32) (a1 : Int32) (a2 : Int32) : Option (Int32 × Wd) :=
  gI σ 1 4 fun v1 =>
  if v1 < 0 then (
    some ((-1), σ))
  else (
    if v1 < 20 then (
      gI σ 1 4 fun v2 =>
      wI σ 1 4 (v2 + 1) fun s3 =>
      gI s3 1 2 fun v4 =>
      bP (f_X7_setOf N v1) fun v5 =>
      wI s3 1 2 (v4 ||| v5) fun s6 =>
      aI s6 2 20 v1 a0 fun s7 =>
      aI s7 3 20 v1 a1 fun s8 =>
      aI s8 4 20 v1 a2 fun s9 =>
      some (v1, s9))
    else (
      some ((-1), σ)))
set_option maxHeartbeats 4000000 in
set_option maxRecDepth 100000 in
theorem c_X4_addWire {l : Launch} {D : va_G} {cy : Nat → ClassId} {h : Nat → Nat} {N : Nat} {σ : Wd} {a0 : Int32} {a1 : Int32} {a2 : Int32} {r : Int32} {σ1 : Wd} (hW : WF (wsC cy h) (adC h)) (hr : f_X4_addWire N σ a0 a1 a2 = some (r, σ1)) : Con l D cy (wsC cy h) (adC h) yX4_addWire wsX4_addWire rm_X4_addWire 0 0 [.ref (h 1), .int a0, .int a1, .int a2] (some (.int r)) σ σ1 := by
  refine Con.of (ρ := Int32 × Wd) (lv0 := [(0, .ref (h 1)), (1, .int a0), (2, .int a1), (3, .int a2)]) (σ := σ) (fun r : Int32 × Wd => some (.int r.1)) (fun r => r.2) (by decide) rfl rfl (Nat.le_of_ble_eq_true rfl) rfl hW hr (fun p e s m args below meth c E => ?_)
  unfold f_X4_addWire
  refine G.aload_n E dX4_addWire_0 0 rfl rfl ?_
  refine G.getI (T := TX4) (N := 8) (C := RX4) (q0 := 1) (i := 4) E dX4_addWire_1 iw_X4_addWire_4 (wsC_at1 _ _ _) rfl (by decide) rfl (List.mem_of_getElem? (i := 1) rfl) (fun v1 => ?_)
  refine G.istore (lv' := [(4, .int v1), (0, .ref (h 1)), (1, .int a0), (2, .int a1), (3, .int a2)]) E dX4_addWire_4 (by decide) rfl ?_
  refine G.iload E dX4_addWire_6 0 rfl ?_
  refine G.if_lt (tgt := 18) E dX4_addWire_8 (by decide) ?_ ?_
  · refine G.iconst (v := (-1)) E dX4_addWire_18 (by decide) ?_
    exact G.iret E dX4_addWire_19 rfl rfl
  · refine G.iload E dX4_addWire_11 0 rfl ?_
    refine G.bipush (v := 20) E dX4_addWire_13 (by decide) ?_
    refine G.icmp_lt (tgt := 20) E dX4_addWire_15 (by decide) ?_ ?_
    · refine G.aload_n E dX4_addWire_20 1 rfl rfl ?_
      refine G.dup E dX4_addWire_21 rfl ?_
      refine G.getI (T := TX4) (N := 8) (C := RX4) (q0 := 1) (i := 4) E dX4_addWire_22 iw_X4_addWire_4 (wsC_at1 _ _ _) rfl (by decide) rfl (List.mem_of_getElem? (i := 1) rfl) (fun v2 => ?_)
      refine G.iconst (v := 1) E dX4_addWire_25 (by decide) ?_
      refine G.iadd E dX4_addWire_26 ?_
      refine G.putI (T := TX4) (N := 8) (C := RX4) (q0 := 1) (i := 4) (ty := .int) E dX4_addWire_27 iw_X4_addWire_4 tyX4 tyX4_ok nmX4 (wsC_at1 _ _ _) rfl (by decide) (List.mem_of_getElem? (i := 1) rfl) rfl (by decide +kernel) rfl rfl (Nat.le_of_ble_eq_true rfl) (wsC_set1_4 _ _ _ _) (fun s3 => ?_)
      refine G.aload_n E dX4_addWire_30 1 rfl rfl ?_
      refine G.dup E dX4_addWire_31 rfl ?_
      refine G.getI (T := TX4) (N := 8) (C := RX4) (q0 := 1) (i := 2) E dX4_addWire_32 iw_X4_addWire_4 (wsC_at1 _ _ _) rfl (by decide) rfl (List.mem_of_getElem? (i := 2) rfl) (fun v4 => ?_)
      refine G.iload E dX4_addWire_35 0 rfl ?_
      refine G.callNi (n := 1) (As := [.int v1]) E dX4_addWire_37 (fun _ hv => c_X7_setOf E.wf hv) gX4_addWire_X7_setOf_n55 (List.mem_of_getElem? (i := 10) rfl) (List.mem_of_getElem? (i := 7) rfl) (List.mem_of_getElem? (i := 6) rfl) rfl rfl rfl (by decide +kernel) ⟨Nat.le_of_ble_eq_true rfl, Nat.le_of_ble_eq_true rfl⟩ rfl (Nat.le_of_ble_eq_true rfl) ⟨Nat.le_of_ble_eq_true rfl, Nat.le_of_ble_eq_true rfl⟩ (fun v5 => ?_)
      refine G.ior E dX4_addWire_40 ?_
      refine G.putI (T := TX4) (N := 8) (C := RX4) (q0 := 1) (i := 2) (ty := .int) E dX4_addWire_41 iw_X4_addWire_4 tyX4 tyX4_ok nmX4 (wsC_at1 _ _ _) rfl (by decide) (List.mem_of_getElem? (i := 2) rfl) rfl (by decide +kernel) rfl rfl (Nat.le_of_ble_eq_true rfl) (wsC_set1_2 _ _ _ _) (fun s6 => ?_)
      refine G.aload_n E dX4_addWire_44 1 rfl rfl ?_
      refine G.getR (T := TX4) (N := 8) (C := RX4) (q0 := 1) (i := 5) E dX4_addWire_45 iw_X4_addWire_4 (wsC_at1 _ _ _) rfl (by decide) rfl (List.mem_of_getElem? (i := 3) rfl) ?_
      refine G.iload E dX4_addWire_48 0 rfl ?_
      refine G.iload_n E dX4_addWire_50 2 rfl rfl ?_
      refine G.iast (q0 := 2) E dX4_addWire_51 (wsC_at2 _ _ _) (fun j => wsC_set2 _ _ _ _ j) (fun s7 => ?_)
      refine G.aload_n E dX4_addWire_52 1 rfl rfl ?_
      refine G.getR (T := TX4) (N := 8) (C := RX4) (q0 := 1) (i := 6) E dX4_addWire_53 iw_X4_addWire_4 (wsC_at1 _ _ _) rfl (by decide) rfl (List.mem_of_getElem? (i := 4) rfl) ?_
      refine G.iload E dX4_addWire_56 0 rfl ?_
      refine G.iload_n E dX4_addWire_58 3 rfl rfl ?_
      refine G.iast (q0 := 3) E dX4_addWire_59 (wsC_at3 _ _ _) (fun j => wsC_set3 _ _ _ _ j) (fun s8 => ?_)
      refine G.aload_n E dX4_addWire_60 1 rfl rfl ?_
      refine G.getR (T := TX4) (N := 8) (C := RX4) (q0 := 1) (i := 7) E dX4_addWire_61 iw_X4_addWire_4 (wsC_at1 _ _ _) rfl (by decide) rfl (List.mem_of_getElem? (i := 5) rfl) ?_
      refine G.iload E dX4_addWire_64 0 rfl ?_
      refine G.iload_n E dX4_addWire_66 4 rfl rfl ?_
      refine G.iast (q0 := 4) E dX4_addWire_67 (wsC_at4 _ _ _) (fun j => wsC_set4 _ _ _ _ j) (fun s9 => ?_)
      refine G.iload E dX4_addWire_68 0 rfl ?_
      exact G.iret E dX4_addWire_70 rfl rfl
    · refine G.iconst (v := (-1)) E dX4_addWire_18 (by decide) ?_
      exact G.iret E dX4_addWire_19 rfl rfl
set_option maxHeartbeats 4000000 in
set_option maxRecDepth 100000 in
theorem iw_X3_carryOut_3 : ∀ w ∈ u_ws RX3 TX3 10, w ∈ wsX3_carryOut := fun _ h => List.mem_cons_of_mem _ (List.mem_append_left _ (List.mem_append_left _ (List.mem_append_right _ h)))
set_option maxHeartbeats 4000000 in
set_option maxRecDepth 100000 in
theorem iw_X3_carryOut_4 : ∀ w ∈ u_ws RX4 TX4 8, w ∈ wsX3_carryOut := fun _ h => List.mem_cons_of_mem _ (List.mem_append_left _ (List.mem_append_right _ h))
set_option maxHeartbeats 4000000 in
set_option maxRecDepth 100000 in
theorem iw_X3_carryOut_5 : ∀ w ∈ u_ws RX5 TX5 10, w ∈ wsX3_carryOut := fun _ h => List.mem_cons_of_mem _ (List.mem_append_right _ h)
abbrev rm_X3_carryOut : Room := { frames := 2, cells := 0, slots := 0, locals := 44 }
noncomputable def fl_X3_carryOut_84 {ρ : Type} (N : Nat) (K : Wd → Option ρ) : Nat → Int32 → Wd → Option ρ
  | 0, _, _ => none
  | n + 1, x1, s0 =>
    gI s0 29 6 fun v12 =>
    if v12 ≤ x1 then (
      K s0)
    else (
      if 3 ≤ x1 then (
        K s0)
      else (
        rI s0 30 3 x1 fun v13 =>
        rI s0 31 3 x1 fun v14 =>
        rI s0 32 3 x1 fun v15 =>
        bS (f_X4_addWire N s0 v13 v14 v15) fun v16 s17 =>
        fl_X3_carryOut_84 N K n (x1 + 1) s17))
set_option maxHeartbeats 4000000 in
set_option maxRecDepth 100000 in
theorem gl_X3_carryOut_84 {ρ : Type} {Q : ρ → State → Prop} {N : Nat} {K : Wd → Option ρ} (E : EV p s m args meth c cX3_carryOut 2 RX3 wsX3_carryOut none D cy (wsC cy h) (adC h)) (hK : ∀ (s' : Wd), G p l e (headSpec wsX3_carryOut rm_X3_carryOut).room s m args below meth c 2 0 0 D (wsC cy h) (adC h) Q 141 [] [] s' (K s')) :
  ∀ (n : Nat) (x1 : Int32) (s0 : Wd), G p l e (headSpec wsX3_carryOut rm_X3_carryOut).room s m args below meth c 2 0 0 D (wsC cy h) (adC h) Q 84 [(0, .ref (h 28)), (1, .int x1)] [] s0 (fl_X3_carryOut_84 N K n x1 s0) := by
  intro n
  induction n with
  | zero => intros; exact G.no
  | succ n ih =>
    intro x1 s0
    rw [fl_X3_carryOut_84]
    refine G.iload_n E dX3_carryOut_84 1 rfl rfl ?_
    refine G.aload_n E dX3_carryOut_85 0 rfl rfl ?_
    refine G.getR (T := TX3) (N := 10) (C := RX3) (q0 := 28) (i := 1) E dX3_carryOut_86 iw_X3_carryOut_3 (wsC_at28 _ _ _) rfl (by decide) rfl (List.mem_of_getElem? (i := 3) rfl) ?_
    refine G.getI (T := TX5) (N := 10) (C := RX5) (q0 := 29) (i := 6) E dX3_carryOut_89 iw_X3_carryOut_5 (wsC_at29 _ _ _) rfl (by decide) rfl (List.mem_of_getElem? (i := 10) rfl) (fun v12 => ?_)
    refine G.icmp_ge (tgt := 141) E dX3_carryOut_92 (by decide) ?_ ?_
    · refine G.loc [] rfl ?_
      exact hK s0
    · refine G.iload_n E dX3_carryOut_95 1 rfl rfl ?_
      refine G.iconst (v := 3) E dX3_carryOut_96 (by decide) ?_
      refine G.icmp_ge (tgt := 141) E dX3_carryOut_97 (by decide) ?_ ?_
      · refine G.loc [] rfl ?_
        exact hK s0
      · refine G.aload_n E dX3_carryOut_100 0 rfl rfl ?_
        refine G.getR (T := TX3) (N := 10) (C := RX3) (q0 := 28) (i := 0) E dX3_carryOut_101 iw_X3_carryOut_3 (wsC_at28 _ _ _) rfl (by decide) rfl (List.mem_of_getElem? (i := 1) rfl) ?_
        refine G.aload_n E dX3_carryOut_104 0 rfl rfl ?_
        refine G.getR (T := TX3) (N := 10) (C := RX3) (q0 := 28) (i := 1) E dX3_carryOut_105 iw_X3_carryOut_3 (wsC_at28 _ _ _) rfl (by decide) rfl (List.mem_of_getElem? (i := 3) rfl) ?_
        refine G.getR (T := TX5) (N := 10) (C := RX5) (q0 := 29) (i := 7) E dX3_carryOut_108 iw_X3_carryOut_5 (wsC_at29 _ _ _) rfl (by decide) rfl (List.mem_of_getElem? (i := 11) rfl) ?_
        refine G.iload_n E dX3_carryOut_111 1 rfl rfl ?_
        refine G.iald (q0 := 30) E dX3_carryOut_112 (wsC_at30 _ _ _) (fun v13 => ?_)
        refine G.aload_n E dX3_carryOut_113 0 rfl rfl ?_
        refine G.getR (T := TX3) (N := 10) (C := RX3) (q0 := 28) (i := 1) E dX3_carryOut_114 iw_X3_carryOut_3 (wsC_at28 _ _ _) rfl (by decide) rfl (List.mem_of_getElem? (i := 3) rfl) ?_
        refine G.getR (T := TX5) (N := 10) (C := RX5) (q0 := 29) (i := 8) E dX3_carryOut_117 iw_X3_carryOut_5 (wsC_at29 _ _ _) rfl (by decide) rfl (List.mem_of_getElem? (i := 12) rfl) ?_
        refine G.iload_n E dX3_carryOut_120 1 rfl rfl ?_
        refine G.iald (q0 := 31) E dX3_carryOut_121 (wsC_at31 _ _ _) (fun v14 => ?_)
        refine G.aload_n E dX3_carryOut_122 0 rfl rfl ?_
        refine G.getR (T := TX3) (N := 10) (C := RX3) (q0 := 28) (i := 1) E dX3_carryOut_123 iw_X3_carryOut_3 (wsC_at28 _ _ _) rfl (by decide) rfl (List.mem_of_getElem? (i := 3) rfl) ?_
        refine G.getR (T := TX5) (N := 10) (C := RX5) (q0 := 29) (i := 9) E dX3_carryOut_126 iw_X3_carryOut_5 (wsC_at29 _ _ _) rfl (by decide) rfl (List.mem_of_getElem? (i := 13) rfl) ?_
        refine G.iload_n E dX3_carryOut_129 1 rfl rfl ?_
        refine G.iald (q0 := 32) E dX3_carryOut_130 (wsC_at32 _ _ _) (fun v15 => ?_)
        refine G.callVis (n := 3) (T := TX4) (N := 8) (C := RX4) (a := h 1) (q0 := 1) (As := [.int v13, .int v14, .int v15]) E dX3_carryOut_131 (fun _ _ hv => c_X4_addWire E.wf hv) gX3_carryOut_X4_addWire rfl rfl rfl (by decide +kernel) ⟨Nat.le_of_ble_eq_true rfl, Nat.le_of_ble_eq_true rfl⟩ (wsC_at1 _ _ _) rfl rfl (Nat.le_of_ble_eq_true rfl) ⟨Nat.le_of_ble_eq_true rfl, Nat.le_of_ble_eq_true rfl⟩ (fun v16 s17 => ?_)
        refine G.pop E dX3_carryOut_134 rfl ?_
        refine G.iinc (v := x1 + 1) (lv' := [(1, .int (x1 + 1)), (0, .ref (h 28))]) E dX3_carryOut_135 1 rfl rfl (by decide) rfl ?_
        refine G.goto (tgt := 84) E dX3_carryOut_138 (by decide) ?_
        refine G.loc [1, 0] rfl ?_
        exact ih (x1 + 1) s17
noncomputable def f_X3_carryOut (N : Nat) (σ : Wd) : Option (Wd) :=
  gI σ 1 0 fun v1 =>
  gI σ 29 1 fun v2 =>
  wI σ 1 0 (v1 &&& (v2 ^^^ (-1))) fun s3 =>
  gI s3 1 2 fun v4 =>
  gI s3 29 2 fun v5 =>
  wI s3 1 2 (v4 &&& (v5 ^^^ (-1))) fun s6 =>
  gI s6 29 3 fun v7 =>
  gI s6 29 4 fun v8 =>
  bP (f_X4_setConductance N s6 v7 v8) fun s9 =>
  gI s9 29 5 fun v10 =>
  jn (fun (s11 : Wd) => ((
    fl_X3_carryOut_84 N (fun s18 =>
      some s18) N 0 s11) : Option (Wd))) fun j82 =>
  if v10 ≤ 0 then (
    j82 s9)
  else (
    bS (f_X4_addNode N s9 0) fun v19 s20 =>
    j82 s20)
set_option maxHeartbeats 4000000 in
set_option maxRecDepth 100000 in
theorem c_X3_carryOut {l : Launch} {D : va_G} {cy : Nat → ClassId} {h : Nat → Nat} {N : Nat} {σ : Wd} {σ1 : Wd} (hW : WF (wsC cy h) (adC h)) (hr : f_X3_carryOut N σ = some σ1) : Con l D cy (wsC cy h) (adC h) yX3_carryOut wsX3_carryOut rm_X3_carryOut 0 0 [.ref (h 28)] (none) σ σ1 := by
  refine Con.of (ρ := Wd) (lv0 := [(0, .ref (h 28))]) (σ := σ) (fun _ : Wd => none) (fun r => r) (by decide) rfl rfl (Nat.le_of_ble_eq_true rfl) rfl hW hr (fun p e s m args below meth c E => ?_)
  unfold f_X3_carryOut
  refine G.aload_n E dX3_carryOut_0 0 rfl rfl ?_
  refine G.getR (T := TX3) (N := 10) (C := RX3) (q0 := 28) (i := 0) E dX3_carryOut_1 iw_X3_carryOut_3 (wsC_at28 _ _ _) rfl (by decide) rfl (List.mem_of_getElem? (i := 1) rfl) ?_
  refine G.dup E dX3_carryOut_4 rfl ?_
  refine G.getI (T := TX4) (N := 8) (C := RX4) (q0 := 1) (i := 0) E dX3_carryOut_5 iw_X3_carryOut_4 (wsC_at1 _ _ _) rfl (by decide) rfl (List.mem_of_getElem? (i := 2) rfl) (fun v1 => ?_)
  refine G.aload_n E dX3_carryOut_8 0 rfl rfl ?_
  refine G.getR (T := TX3) (N := 10) (C := RX3) (q0 := 28) (i := 1) E dX3_carryOut_9 iw_X3_carryOut_3 (wsC_at28 _ _ _) rfl (by decide) rfl (List.mem_of_getElem? (i := 3) rfl) ?_
  refine G.getI (T := TX5) (N := 10) (C := RX5) (q0 := 29) (i := 1) E dX3_carryOut_12 iw_X3_carryOut_5 (wsC_at29 _ _ _) rfl (by decide) rfl (List.mem_of_getElem? (i := 4) rfl) (fun v2 => ?_)
  refine G.iconst (v := (-1)) E dX3_carryOut_15 (by decide) ?_
  refine G.ixor E dX3_carryOut_16 ?_
  refine G.iand E dX3_carryOut_17 ?_
  refine G.putI (T := TX4) (N := 8) (C := RX4) (q0 := 1) (i := 0) (ty := .int) E dX3_carryOut_18 iw_X3_carryOut_4 tyX4 tyX4_ok nmX4 (wsC_at1 _ _ _) rfl (by decide) (List.mem_of_getElem? (i := 2) rfl) rfl (by decide +kernel) rfl rfl (Nat.le_of_ble_eq_true rfl) (wsC_set1_0 _ _ _ _) (fun s3 => ?_)
  refine G.aload_n E dX3_carryOut_21 0 rfl rfl ?_
  refine G.getR (T := TX3) (N := 10) (C := RX3) (q0 := 28) (i := 0) E dX3_carryOut_22 iw_X3_carryOut_3 (wsC_at28 _ _ _) rfl (by decide) rfl (List.mem_of_getElem? (i := 1) rfl) ?_
  refine G.dup E dX3_carryOut_25 rfl ?_
  refine G.getI (T := TX4) (N := 8) (C := RX4) (q0 := 1) (i := 2) E dX3_carryOut_26 iw_X3_carryOut_4 (wsC_at1 _ _ _) rfl (by decide) rfl (List.mem_of_getElem? (i := 5) rfl) (fun v4 => ?_)
  refine G.aload_n E dX3_carryOut_29 0 rfl rfl ?_
  refine G.getR (T := TX3) (N := 10) (C := RX3) (q0 := 28) (i := 1) E dX3_carryOut_30 iw_X3_carryOut_3 (wsC_at28 _ _ _) rfl (by decide) rfl (List.mem_of_getElem? (i := 3) rfl) ?_
  refine G.getI (T := TX5) (N := 10) (C := RX5) (q0 := 29) (i := 2) E dX3_carryOut_33 iw_X3_carryOut_5 (wsC_at29 _ _ _) rfl (by decide) rfl (List.mem_of_getElem? (i := 6) rfl) (fun v5 => ?_)
  refine G.iconst (v := (-1)) E dX3_carryOut_36 (by decide) ?_
  refine G.ixor E dX3_carryOut_37 ?_
  refine G.iand E dX3_carryOut_38 ?_
  refine G.putI (T := TX4) (N := 8) (C := RX4) (q0 := 1) (i := 2) (ty := .int) E dX3_carryOut_39 iw_X3_carryOut_4 tyX4 tyX4_ok nmX4 (wsC_at1 _ _ _) rfl (by decide) (List.mem_of_getElem? (i := 5) rfl) rfl (by decide +kernel) rfl rfl (Nat.le_of_ble_eq_true rfl) (wsC_set1_2 _ _ _ _) (fun s6 => ?_)
  refine G.aload_n E dX3_carryOut_42 0 rfl rfl ?_
  refine G.getR (T := TX3) (N := 10) (C := RX3) (q0 := 28) (i := 0) E dX3_carryOut_43 iw_X3_carryOut_3 (wsC_at28 _ _ _) rfl (by decide) rfl (List.mem_of_getElem? (i := 1) rfl) ?_
  refine G.aload_n E dX3_carryOut_46 0 rfl rfl ?_
  refine G.getR (T := TX3) (N := 10) (C := RX3) (q0 := 28) (i := 1) E dX3_carryOut_47 iw_X3_carryOut_3 (wsC_at28 _ _ _) rfl (by decide) rfl (List.mem_of_getElem? (i := 3) rfl) ?_
  refine G.getI (T := TX5) (N := 10) (C := RX5) (q0 := 29) (i := 3) E dX3_carryOut_50 iw_X3_carryOut_5 (wsC_at29 _ _ _) rfl (by decide) rfl (List.mem_of_getElem? (i := 7) rfl) (fun v7 => ?_)
  refine G.aload_n E dX3_carryOut_53 0 rfl rfl ?_
  refine G.getR (T := TX3) (N := 10) (C := RX3) (q0 := 28) (i := 1) E dX3_carryOut_54 iw_X3_carryOut_3 (wsC_at28 _ _ _) rfl (by decide) rfl (List.mem_of_getElem? (i := 3) rfl) ?_
  refine G.getI (T := TX5) (N := 10) (C := RX5) (q0 := 29) (i := 4) E dX3_carryOut_57 iw_X3_carryOut_5 (wsC_at29 _ _ _) rfl (by decide) rfl (List.mem_of_getElem? (i := 8) rfl) (fun v8 => ?_)
  refine G.callVv (n := 2) (T := TX4) (N := 8) (C := RX4) (a := h 1) (q0 := 1) (As := [.int v7, .int v8]) E dX3_carryOut_60 (fun _ hv => c_X4_setConductance E.wf hv) gX3_carryOut_X4_setConductance rfl rfl rfl (by decide +kernel) ⟨Nat.le_of_ble_eq_true rfl, Nat.le_of_ble_eq_true rfl⟩ (wsC_at1 _ _ _) rfl rfl (Nat.le_of_ble_eq_true rfl) ⟨Nat.le_of_ble_eq_true rfl, Nat.le_of_ble_eq_true rfl⟩ (fun s9 => ?_)
  refine G.aload_n E dX3_carryOut_63 0 rfl rfl ?_
  refine G.getR (T := TX3) (N := 10) (C := RX3) (q0 := 28) (i := 1) E dX3_carryOut_64 iw_X3_carryOut_3 (wsC_at28 _ _ _) rfl (by decide) rfl (List.mem_of_getElem? (i := 3) rfl) ?_
  refine G.getI (T := TX5) (N := 10) (C := RX5) (q0 := 29) (i := 5) E dX3_carryOut_67 iw_X3_carryOut_5 (wsC_at29 _ _ _) rfl (by decide) rfl (List.mem_of_getElem? (i := 9) rfl) (fun v10 => ?_)
  refine G.jn (P := fun j => ∀ (s11 : Wd), G p l e (headSpec wsX3_carryOut rm_X3_carryOut).room s m args below meth c 2 0 0 D (wsC cy h) (adC h) (QM D (wsC cy h) (adC h) below args s 0 0 (fun _ : Wd => none) (fun r => r)) 82 [(0, .ref (h 28))] [] s11 (j s11)) ?_ (fun j82 hj82 => ?_)
  · intro s11
    refine G.iconst (v := 0) E dX3_carryOut_82 (by decide) ?_
    refine G.istore_n (lv' := [(1, .int 0), (0, .ref (h 28))]) E dX3_carryOut_83 rfl (by decide) rfl ?_
    refine G.loc [1, 0] rfl ?_
    refine gl_X3_carryOut_84 E (fun s18 => ?_) N _ _
    exact G.vret E dX3_carryOut_141 rfl rfl
  · refine G.if_le (tgt := 82) E dX3_carryOut_70 (by decide) ?_ ?_
    · refine G.loc [0] rfl ?_
      exact hj82 s9
    · refine G.aload_n E dX3_carryOut_73 0 rfl rfl ?_
      refine G.getR (T := TX3) (N := 10) (C := RX3) (q0 := 28) (i := 0) E dX3_carryOut_74 iw_X3_carryOut_3 (wsC_at28 _ _ _) rfl (by decide) rfl (List.mem_of_getElem? (i := 1) rfl) ?_
      refine G.iconst (v := 0) E dX3_carryOut_77 (by decide) ?_
      refine G.callVis (n := 1) (T := TX4) (N := 8) (C := RX4) (a := h 1) (q0 := 1) (As := [.int 0]) E dX3_carryOut_78 (fun _ _ hv => c_X4_addNode E.wf hv) gX3_carryOut_X4_addNode rfl rfl rfl (by decide +kernel) ⟨Nat.le_of_ble_eq_true rfl, Nat.le_of_ble_eq_true rfl⟩ (wsC_at1 _ _ _) rfl rfl (Nat.le_of_ble_eq_true rfl) ⟨Nat.le_of_ble_eq_true rfl, Nat.le_of_ble_eq_true rfl⟩ (fun v19 s20 => ?_)
      refine G.pop E dX3_carryOut_81 rfl ?_
      refine G.loc [0] rfl ?_
      exact hj82 s20
abbrev rm_X7_isOfWire : Room := { frames := 0, cells := 0, slots := 0, locals := 0 }
noncomputable def f_X7_isOfWire (N : Nat) (a0 : Int32) : Option (Int32) :=
  if a0 = 0 then (
    some 1)
  else (
    if a0 = 1 then (
      some 1)
    else (
      if a0 = 5 then (
        some 1)
      else (
        some 0)))
set_option maxHeartbeats 4000000 in
set_option maxRecDepth 100000 in
theorem c_X7_isOfWire {l : Launch} {D : va_G} {cy : Nat → ClassId} {h : Nat → Nat} {N : Nat} {σ : Wd} {a0 : Int32} {r : Int32} (hW : WF (wsC cy h) (adC h)) (hr : f_X7_isOfWire N a0 = some r) : Con l D cy (wsC cy h) (adC h) yX7_isOfWire wsX7_isOfWire rm_X7_isOfWire 0 0 [.int a0] (some (.int r)) σ σ := by
  refine Con.of (ρ := Int32) (lv0 := [(0, .int a0)]) (σ := σ) (fun r : Int32 => some (.int r)) (fun _ => σ) (by decide) rfl rfl (Nat.le_of_ble_eq_true rfl) rfl hW hr (fun p e s m args below meth c E => ?_)
  unfold f_X7_isOfWire
  refine G.iload_n E dX7_isOfWire_0 0 rfl rfl ?_
  refine G.if_eq (tgt := 14) E dX7_isOfWire_1 (by decide) ?_ ?_
  · refine G.iconst (v := 1) E dX7_isOfWire_14 (by decide) ?_
    refine G.goto (tgt := 19) E dX7_isOfWire_15 (by decide) ?_
    exact G.zretc E dX7_isOfWire_19 rfl rfl rfl
  · refine G.iload_n E dX7_isOfWire_4 0 rfl rfl ?_
    refine G.iconst (v := 1) E dX7_isOfWire_5 (by decide) ?_
    refine G.icmp_eq (tgt := 14) E dX7_isOfWire_6 (by decide) ?_ ?_
    · refine G.iconst (v := 1) E dX7_isOfWire_14 (by decide) ?_
      refine G.goto (tgt := 19) E dX7_isOfWire_15 (by decide) ?_
      exact G.zretc E dX7_isOfWire_19 rfl rfl rfl
    · refine G.iload_n E dX7_isOfWire_9 0 rfl rfl ?_
      refine G.iconst (v := 5) E dX7_isOfWire_10 (by decide) ?_
      refine G.icmp_ne (tgt := 18) E dX7_isOfWire_11 (by decide) ?_ ?_
      · refine G.iconst (v := 1) E dX7_isOfWire_14 (by decide) ?_
        refine G.goto (tgt := 19) E dX7_isOfWire_15 (by decide) ?_
        exact G.zretc E dX7_isOfWire_19 rfl rfl rfl
      · refine G.iconst (v := 0) E dX7_isOfWire_18 (by decide) ?_
        exact G.zretc E dX7_isOfWire_19 rfl rfl rfl
set_option maxHeartbeats 4000000 in
set_option maxRecDepth 100000 in
theorem iw_X5_begin_5 : ∀ w ∈ u_ws RX5 TX5 10, w ∈ wsX5_begin := fun _ h => List.mem_cons_of_mem _ (List.mem_append_right _ h)
abbrev rm_X5_begin : Room := { frames := 0, cells := 0, slots := 0, locals := 0 }
noncomputable def f_X5_begin (N : Nat) (σ : Wd) : Option (Wd) :=
  zb 0 (wI σ 29 0 0 fun s1 =>
  wI s1 29 1 0 fun s2 =>
  wI s2 29 2 0 fun s3 =>
  wI s3 29 3 (-1) fun s4 =>
  wI s4 29 4 0 fun s5 =>
  wI s5 29 5 0 fun s6 =>
  wI s6 29 6 0 fun s7 =>
  some s7)
set_option maxHeartbeats 4000000 in
set_option maxRecDepth 100000 in
theorem c_X5_begin {l : Launch} {D : va_G} {cy : Nat → ClassId} {h : Nat → Nat} {N : Nat} {σ : Wd} {σ1 : Wd} (hW : WF (wsC cy h) (adC h)) (hr : f_X5_begin N σ = some σ1) : Con l D cy (wsC cy h) (adC h) yX5_begin wsX5_begin rm_X5_begin 0 0 [.ref (h 29)] (none) σ σ1 := by
  refine Con.of (ρ := Wd) (lv0 := [(0, .ref (h 29))]) (σ := σ) (fun _ : Wd => none) (fun r => r) (by decide) rfl rfl (Nat.le_of_ble_eq_true rfl) rfl hW hr (fun p e s m args below meth c E => ?_)
  unfold f_X5_begin
  refine G.aload_n E dX5_begin_0 0 rfl rfl ?_
  refine G.iconst (v := 0) E dX5_begin_1 (by decide) ?_
  refine G.putZ (T := TX5) (N := 10) (C := RX5) (q0 := 29) (i := 0) E dX5_begin_2 iw_X5_begin_5 tyX5 tyX5_ok nmX5 (wsC_at29 _ _ _) rfl (by decide) (List.mem_of_getElem? (i := 1) rfl) rfl (by decide +kernel) (Nat.le_of_ble_eq_true rfl) (wsC_set29_0 _ _ _ _) (fun s1 => ?_)
  refine G.aload_n E dX5_begin_5 0 rfl rfl ?_
  refine G.iconst (v := 0) E dX5_begin_6 (by decide) ?_
  refine G.putI (T := TX5) (N := 10) (C := RX5) (q0 := 29) (i := 1) (ty := .int) E dX5_begin_7 iw_X5_begin_5 tyX5 tyX5_ok nmX5 (wsC_at29 _ _ _) rfl (by decide) (List.mem_of_getElem? (i := 2) rfl) rfl (by decide +kernel) rfl rfl (Nat.le_of_ble_eq_true rfl) (wsC_set29_1 _ _ _ _) (fun s2 => ?_)
  refine G.aload_n E dX5_begin_10 0 rfl rfl ?_
  refine G.iconst (v := 0) E dX5_begin_11 (by decide) ?_
  refine G.putI (T := TX5) (N := 10) (C := RX5) (q0 := 29) (i := 2) (ty := .int) E dX5_begin_12 iw_X5_begin_5 tyX5 tyX5_ok nmX5 (wsC_at29 _ _ _) rfl (by decide) (List.mem_of_getElem? (i := 3) rfl) rfl (by decide +kernel) rfl rfl (Nat.le_of_ble_eq_true rfl) (wsC_set29_2 _ _ _ _) (fun s3 => ?_)
  refine G.aload_n E dX5_begin_15 0 rfl rfl ?_
  refine G.iconst (v := (-1)) E dX5_begin_16 (by decide) ?_
  refine G.putI (T := TX5) (N := 10) (C := RX5) (q0 := 29) (i := 3) (ty := .int) E dX5_begin_17 iw_X5_begin_5 tyX5 tyX5_ok nmX5 (wsC_at29 _ _ _) rfl (by decide) (List.mem_of_getElem? (i := 4) rfl) rfl (by decide +kernel) rfl rfl (Nat.le_of_ble_eq_true rfl) (wsC_set29_3 _ _ _ _) (fun s4 => ?_)
  refine G.aload_n E dX5_begin_20 0 rfl rfl ?_
  refine G.iconst (v := 0) E dX5_begin_21 (by decide) ?_
  refine G.putI (T := TX5) (N := 10) (C := RX5) (q0 := 29) (i := 4) (ty := .int) E dX5_begin_22 iw_X5_begin_5 tyX5 tyX5_ok nmX5 (wsC_at29 _ _ _) rfl (by decide) (List.mem_of_getElem? (i := 5) rfl) rfl (by decide +kernel) rfl rfl (Nat.le_of_ble_eq_true rfl) (wsC_set29_4 _ _ _ _) (fun s5 => ?_)
  refine G.aload_n E dX5_begin_25 0 rfl rfl ?_
  refine G.iconst (v := 0) E dX5_begin_26 (by decide) ?_
  refine G.putI (T := TX5) (N := 10) (C := RX5) (q0 := 29) (i := 5) (ty := .int) E dX5_begin_27 iw_X5_begin_5 tyX5 tyX5_ok nmX5 (wsC_at29 _ _ _) rfl (by decide) (List.mem_of_getElem? (i := 6) rfl) rfl (by decide +kernel) rfl rfl (Nat.le_of_ble_eq_true rfl) (wsC_set29_5 _ _ _ _) (fun s6 => ?_)
  refine G.aload_n E dX5_begin_30 0 rfl rfl ?_
  refine G.iconst (v := 0) E dX5_begin_31 (by decide) ?_
  refine G.putI (T := TX5) (N := 10) (C := RX5) (q0 := 29) (i := 6) (ty := .int) E dX5_begin_32 iw_X5_begin_5 tyX5 tyX5_ok nmX5 (wsC_at29 _ _ _) rfl (by decide) (List.mem_of_getElem? (i := 7) rfl) rfl (by decide +kernel) rfl rfl (Nat.le_of_ble_eq_true rfl) (wsC_set29_6 _ _ _ _) (fun s7 => ?_)
  exact G.vret E dX5_begin_35 rfl rfl
set_option maxHeartbeats 4000000 in
set_option maxRecDepth 100000 in
theorem iw_X3_planLoop_3 : ∀ w ∈ u_ws RX3 TX3 10, w ∈ wsX3_planLoop := fun _ h => List.mem_cons_of_mem _ (List.mem_append_left _ (List.mem_append_left _ (List.mem_append_right _ h)))
set_option maxHeartbeats 4000000 in
set_option maxRecDepth 100000 in
theorem iw_X3_planLoop_5 : ∀ w ∈ u_ws RX5 TX5 10, w ∈ wsX3_planLoop := fun _ h => List.mem_cons_of_mem _ (List.mem_append_left _ (List.mem_append_right _ h))
abbrev rm_X3_planLoop : Room := { frames := 2, cells := 0, slots := 0, locals := 42 }
noncomputable def f_X3_planLoop (N : Nat) (σ : Wd) (a0 : Int32) : Option (Wd) :=
  bP (f_X4_isRing N σ a0) fun v1 =>
  zb v1 (wI σ 29 0 v1 fun s2 =>
  bP (f_X7_setOf N a0) fun v3 =>
  wI s2 29 2 v3 fun s4 =>
  some s4)
set_option maxHeartbeats 4000000 in
set_option maxRecDepth 100000 in
theorem c_X3_planLoop {l : Launch} {D : va_G} {cy : Nat → ClassId} {h : Nat → Nat} {N : Nat} {σ : Wd} {a0 : Int32} {σ1 : Wd} (hW : WF (wsC cy h) (adC h)) (hr : f_X3_planLoop N σ a0 = some σ1) : Con l D cy (wsC cy h) (adC h) yX3_planLoop wsX3_planLoop rm_X3_planLoop 0 0 [.ref (h 28), .int a0] (none) σ σ1 := by
  refine Con.of (ρ := Wd) (lv0 := [(0, .ref (h 28)), (1, .int a0)]) (σ := σ) (fun _ : Wd => none) (fun r => r) (by decide) rfl rfl (Nat.le_of_ble_eq_true rfl) rfl hW hr (fun p e s m args below meth c E => ?_)
  unfold f_X3_planLoop
  refine G.aload_n E dX3_planLoop_0 0 rfl rfl ?_
  refine G.getR (T := TX3) (N := 10) (C := RX3) (q0 := 28) (i := 1) E dX3_planLoop_1 iw_X3_planLoop_3 (wsC_at28 _ _ _) rfl (by decide) rfl (List.mem_of_getElem? (i := 1) rfl) ?_
  refine G.aload_n E dX3_planLoop_4 0 rfl rfl ?_
  refine G.getR (T := TX3) (N := 10) (C := RX3) (q0 := 28) (i := 0) E dX3_planLoop_5 iw_X3_planLoop_3 (wsC_at28 _ _ _) rfl (by decide) rfl (List.mem_of_getElem? (i := 2) rfl) ?_
  refine G.iload_n E dX3_planLoop_8 1 rfl rfl ?_
  refine G.callVi (n := 1) (T := TX4) (N := 8) (C := RX4) (a := h 1) (q0 := 1) (As := [.int a0]) E dX3_planLoop_9 (fun _ hv => c_X4_isRing E.wf hv) gX3_planLoop_X4_isRing rfl rfl rfl (by decide +kernel) ⟨Nat.le_of_ble_eq_true rfl, Nat.le_of_ble_eq_true rfl⟩ (wsC_at1 _ _ _) rfl rfl (Nat.le_of_ble_eq_true rfl) ⟨Nat.le_of_ble_eq_true rfl, Nat.le_of_ble_eq_true rfl⟩ (fun v1 => ?_)
  refine G.putZ (T := TX5) (N := 10) (C := RX5) (q0 := 29) (i := 0) E dX3_planLoop_12 iw_X3_planLoop_5 tyX5 tyX5_ok nmX5 (wsC_at29 _ _ _) rfl (by decide) (List.mem_of_getElem? (i := 3) rfl) rfl (by decide +kernel) (Nat.le_of_ble_eq_true rfl) (wsC_set29_0 _ _ _ _) (fun s2 => ?_)
  refine G.aload_n E dX3_planLoop_15 0 rfl rfl ?_
  refine G.getR (T := TX3) (N := 10) (C := RX3) (q0 := 28) (i := 1) E dX3_planLoop_16 iw_X3_planLoop_3 (wsC_at28 _ _ _) rfl (by decide) rfl (List.mem_of_getElem? (i := 1) rfl) ?_
  refine G.iload_n E dX3_planLoop_19 1 rfl rfl ?_
  refine G.callNi (n := 1) (As := [.int a0]) E dX3_planLoop_20 (fun _ hv => c_X7_setOf E.wf hv) gX3_planLoop_X7_setOf_n109 (List.mem_of_getElem? (i := 5) rfl) (List.mem_of_getElem? (i := 21) rfl) (List.mem_of_getElem? (i := 20) rfl) rfl rfl rfl (by decide +kernel) ⟨Nat.le_of_ble_eq_true rfl, Nat.le_of_ble_eq_true rfl⟩ rfl (Nat.le_of_ble_eq_true rfl) ⟨Nat.le_of_ble_eq_true rfl, Nat.le_of_ble_eq_true rfl⟩ (fun v3 => ?_)
  refine G.putI (T := TX5) (N := 10) (C := RX5) (q0 := 29) (i := 2) (ty := .int) E dX3_planLoop_23 iw_X3_planLoop_5 tyX5 tyX5_ok nmX5 (wsC_at29 _ _ _) rfl (by decide) (List.mem_of_getElem? (i := 4) rfl) rfl (by decide +kernel) rfl rfl (Nat.le_of_ble_eq_true rfl) (wsC_set29_2 _ _ _ _) (fun s4 => ?_)
  exact G.vret E dX3_planLoop_26 rfl rfl
set_option maxHeartbeats 4000000 in
set_option maxRecDepth 100000 in
theorem iw_X4_lowestBetween_4 : ∀ w ∈ u_ws RX4 TX4 8, w ∈ wsX4_lowestBetween := fun _ h => List.mem_cons_of_mem _ (List.mem_append_right _ h)
abbrev rm_X4_lowestBetween : Room := { frames := 2, cells := 0, slots := 0, locals := 42 }
noncomputable def fl_X4_lowestBetween_3 (N : Nat) (σ : Wd) (x1 : Int32) (x2 : Int32) (x3 : Int32) (K : Unit → Option (Int32)) : Nat → Int32 → Option (Int32)
  | 0, _ => none
  | n + 1, x4 =>
    if 20 ≤ x4 then (
      K ())
    else (
      rI σ 2 20 x4 fun v1 =>
      jn (fun (v2 : Int32) => ((
        jn (fun (_u : Unit) => ((
          fl_X4_lowestBetween_3 N σ x1 x2 x3 K n (x4 + 1)) : Option (Int32))) fun j84 =>
        if v2 = 0 then (
          j84 ())
        else (
          if x4 = x3 then (
            j84 ())
          else (
            bP (f_X4_hasWire N σ x4) fun v3 =>
            if v3 = 0 then (
              j84 ())
            else (
              some x4)))) : Option (Int32))) fun j59 =>
      jn (fun (_u : Unit) => ((
        j59 1) : Option (Int32))) fun j54 =>
      jn (fun (_u : Unit) => ((
        rI σ 2 20 x4 fun v4 =>
        jn (fun (_u : Unit) => ((
          j59 0) : Option (Int32))) fun j58 =>
        if v4 = x2 then (
          rI σ 3 20 x4 fun v5 =>
          if v5 = x1 then (
            j54 ())
          else (
            j58 ()))
        else (
          j58 ())) : Option (Int32))) fun j32 =>
      if v1 = x1 then (
        rI σ 3 20 x4 fun v6 =>
        if v6 = x2 then (
          j54 ())
        else (
          j32 ()))
      else (
        j32 ()))
set_option maxHeartbeats 4000000 in
set_option maxRecDepth 100000 in
theorem gl_X4_lowestBetween_3 {N : Nat} {σ : Wd} {x1 : Int32} {x2 : Int32} {x3 : Int32} {K : Unit → Option (Int32)} (E : EV p s m args meth c cX4_lowestBetween 6 RX4 wsX4_lowestBetween (some .int) D cy (wsC cy h) (adC h)) (hK : ∀ (u : Unit), G p l e (headSpec wsX4_lowestBetween rm_X4_lowestBetween).room s m args below meth c 6 0 0 D (wsC cy h) (adC h) (QM D (wsC cy h) (adC h) below args s 0 0 (fun r : Int32 => some (.int r)) (fun _ => σ)) 90 [] [] σ (K u)) :
  ∀ (n : Nat) (x4 : Int32), G p l e (headSpec wsX4_lowestBetween rm_X4_lowestBetween).room s m args below meth c 6 0 0 D (wsC cy h) (adC h) (QM D (wsC cy h) (adC h) below args s 0 0 (fun r : Int32 => some (.int r)) (fun _ => σ)) 3 [(0, .ref (h 1)), (1, .int x1), (2, .int x2), (3, .int x3), (4, .int x4)] [] σ (fl_X4_lowestBetween_3 N σ x1 x2 x3 K n x4) := by
  intro n
  induction n with
  | zero => intros; exact G.no
  | succ n ih =>
    intro x4
    rw [fl_X4_lowestBetween_3]
    refine G.iload E dX4_lowestBetween_3 4 rfl ?_
    refine G.bipush (v := 20) E dX4_lowestBetween_5 (by decide) ?_
    refine G.icmp_ge (tgt := 90) E dX4_lowestBetween_7 (by decide) ?_ ?_
    · refine G.loc [] rfl ?_
      exact hK ()
    · refine G.aload_n E dX4_lowestBetween_10 0 rfl rfl ?_
      refine G.getR (T := TX4) (N := 8) (C := RX4) (q0 := 1) (i := 5) E dX4_lowestBetween_11 iw_X4_lowestBetween_4 (wsC_at1 _ _ _) rfl (by decide) rfl (List.mem_of_getElem? (i := 1) rfl) ?_
      refine G.iload E dX4_lowestBetween_14 4 rfl ?_
      refine G.iald (q0 := 2) E dX4_lowestBetween_16 (wsC_at2 _ _ _) (fun v1 => ?_)
      refine G.iload_n E dX4_lowestBetween_17 1 rfl rfl ?_
      refine G.jn (P := fun j => ∀ (v2 : Int32), G p l e (headSpec wsX4_lowestBetween rm_X4_lowestBetween).room s m args below meth c 6 0 0 D (wsC cy h) (adC h) (QM D (wsC cy h) (adC h) below args s 0 0 (fun r : Int32 => some (.int r)) (fun _ => σ)) 59 [(0, .ref (h 1)), (1, .int x1), (2, .int x2), (3, .int x3), (4, .int x4)] [.int v2] σ (j v2)) ?_ (fun j59 hj59 => ?_)
      · intro v2
        refine G.istore (lv' := [(5, .int v2), (0, .ref (h 1)), (1, .int x1), (2, .int x2), (3, .int x3), (4, .int x4)]) E dX4_lowestBetween_59 (by decide) rfl ?_
        refine G.iload E dX4_lowestBetween_61 0 rfl ?_
        refine G.jn (P := fun j => ∀ (_u : Unit), G p l e (headSpec wsX4_lowestBetween rm_X4_lowestBetween).room s m args below meth c 6 0 0 D (wsC cy h) (adC h) (QM D (wsC cy h) (adC h) below args s 0 0 (fun r : Int32 => some (.int r)) (fun _ => σ)) 84 [(0, .ref (h 1)), (1, .int x1), (2, .int x2), (3, .int x3), (4, .int x4)] [] σ (j _u)) ?_ (fun j84 hj84 => ?_)
        · intro _u
          refine G.iinc (v := x4 + 1) (lv' := [(4, .int (x4 + 1)), (0, .ref (h 1)), (1, .int x1), (2, .int x2), (3, .int x3)]) E dX4_lowestBetween_84 4 rfl rfl (by decide) rfl ?_
          refine G.goto (tgt := 3) E dX4_lowestBetween_87 (by decide) ?_
          refine G.loc [1, 2, 3, 4, 0] rfl ?_
          exact ih (x4 + 1)
        · refine G.if_eq (tgt := 84) E dX4_lowestBetween_63 (by decide) ?_ ?_
          · refine G.loc [1, 2, 3, 4, 5] rfl ?_
            exact hj84 ()
          · refine G.iload E dX4_lowestBetween_66 5 rfl ?_
            refine G.iload_n E dX4_lowestBetween_68 4 rfl rfl ?_
            refine G.icmp_eq (tgt := 84) E dX4_lowestBetween_69 (by decide) ?_ ?_
            · refine G.loc [1, 2, 3, 4, 5] rfl ?_
              exact hj84 ()
            · refine G.aload_n E dX4_lowestBetween_72 1 rfl rfl ?_
              refine G.iload E dX4_lowestBetween_73 5 rfl ?_
              refine G.callVi (n := 1) (T := TX4) (N := 8) (C := RX4) (a := h 1) (q0 := 1) (As := [.int x4]) E dX4_lowestBetween_75 (fun _ hv => c_X4_hasWire E.wf hv) gX4_lowestBetween_X4_hasWire rfl rfl rfl (by decide +kernel) ⟨Nat.le_of_ble_eq_true rfl, Nat.le_of_ble_eq_true rfl⟩ (wsC_at1 _ _ _) rfl rfl (Nat.le_of_ble_eq_true rfl) ⟨Nat.le_of_ble_eq_true rfl, Nat.le_of_ble_eq_true rfl⟩ (fun v3 => ?_)
              refine G.if_eq (tgt := 84) E dX4_lowestBetween_78 (by decide) ?_ ?_
              · refine G.loc [1, 2, 3, 4, 5] rfl ?_
                exact hj84 ()
              · refine G.iload E dX4_lowestBetween_81 5 rfl ?_
                exact G.iret E dX4_lowestBetween_83 rfl rfl
      · refine G.jn (P := fun j => ∀ (_u : Unit), G p l e (headSpec wsX4_lowestBetween rm_X4_lowestBetween).room s m args below meth c 6 0 0 D (wsC cy h) (adC h) (QM D (wsC cy h) (adC h) below args s 0 0 (fun r : Int32 => some (.int r)) (fun _ => σ)) 54 [(0, .ref (h 1)), (1, .int x1), (2, .int x2), (3, .int x3), (4, .int x4)] [] σ (j _u)) ?_ (fun j54 hj54 => ?_)
        · intro _u
          refine G.iconst (v := 1) E dX4_lowestBetween_54 (by decide) ?_
          refine G.goto (tgt := 59) E dX4_lowestBetween_55 (by decide) ?_
          refine G.loc [0, 1, 2, 3, 4] rfl ?_
          exact hj59 1
        · refine G.jn (P := fun j => ∀ (_u : Unit), G p l e (headSpec wsX4_lowestBetween rm_X4_lowestBetween).room s m args below meth c 6 0 0 D (wsC cy h) (adC h) (QM D (wsC cy h) (adC h) below args s 0 0 (fun r : Int32 => some (.int r)) (fun _ => σ)) 32 [(0, .ref (h 1)), (1, .int x1), (2, .int x2), (3, .int x3), (4, .int x4)] [] σ (j _u)) ?_ (fun j32 hj32 => ?_)
          · intro _u
            refine G.aload_n E dX4_lowestBetween_32 0 rfl rfl ?_
            refine G.getR (T := TX4) (N := 8) (C := RX4) (q0 := 1) (i := 5) E dX4_lowestBetween_33 iw_X4_lowestBetween_4 (wsC_at1 _ _ _) rfl (by decide) rfl (List.mem_of_getElem? (i := 1) rfl) ?_
            refine G.iload E dX4_lowestBetween_36 4 rfl ?_
            refine G.iald (q0 := 2) E dX4_lowestBetween_38 (wsC_at2 _ _ _) (fun v4 => ?_)
            refine G.iload_n E dX4_lowestBetween_39 2 rfl rfl ?_
            refine G.jn (P := fun j => ∀ (_u : Unit), G p l e (headSpec wsX4_lowestBetween rm_X4_lowestBetween).room s m args below meth c 6 0 0 D (wsC cy h) (adC h) (QM D (wsC cy h) (adC h) below args s 0 0 (fun r : Int32 => some (.int r)) (fun _ => σ)) 58 [(0, .ref (h 1)), (1, .int x1), (2, .int x2), (3, .int x3), (4, .int x4)] [] σ (j _u)) ?_ (fun j58 hj58 => ?_)
            · intro _u
              refine G.iconst (v := 0) E dX4_lowestBetween_58 (by decide) ?_
              refine G.loc [0, 1, 2, 3, 4] rfl ?_
              exact hj59 0
            · refine G.icmp_ne (tgt := 58) E dX4_lowestBetween_40 (by decide) ?_ ?_
              · refine G.aload_n E dX4_lowestBetween_43 0 rfl rfl ?_
                refine G.getR (T := TX4) (N := 8) (C := RX4) (q0 := 1) (i := 6) E dX4_lowestBetween_44 iw_X4_lowestBetween_4 (wsC_at1 _ _ _) rfl (by decide) rfl (List.mem_of_getElem? (i := 2) rfl) ?_
                refine G.iload E dX4_lowestBetween_47 4 rfl ?_
                refine G.iald (q0 := 3) E dX4_lowestBetween_49 (wsC_at3 _ _ _) (fun v5 => ?_)
                refine G.iload_n E dX4_lowestBetween_50 1 rfl rfl ?_
                refine G.icmp_ne (tgt := 58) E dX4_lowestBetween_51 (by decide) ?_ ?_
                · refine G.loc [0, 1, 2, 3, 4] rfl ?_
                  exact hj54 ()
                · refine G.loc [0, 1, 2, 3, 4] rfl ?_
                  exact hj58 ()
              · refine G.loc [0, 1, 2, 3, 4] rfl ?_
                exact hj58 ()
          · refine G.icmp_ne (tgt := 32) E dX4_lowestBetween_18 (by decide) ?_ ?_
            · refine G.aload_n E dX4_lowestBetween_21 0 rfl rfl ?_
              refine G.getR (T := TX4) (N := 8) (C := RX4) (q0 := 1) (i := 6) E dX4_lowestBetween_22 iw_X4_lowestBetween_4 (wsC_at1 _ _ _) rfl (by decide) rfl (List.mem_of_getElem? (i := 2) rfl) ?_
              refine G.iload E dX4_lowestBetween_25 4 rfl ?_
              refine G.iald (q0 := 3) E dX4_lowestBetween_27 (wsC_at3 _ _ _) (fun v6 => ?_)
              refine G.iload_n E dX4_lowestBetween_28 2 rfl rfl ?_
              refine G.icmp_eq (tgt := 54) E dX4_lowestBetween_29 (by decide) ?_ ?_
              · refine G.loc [0, 1, 2, 3, 4] rfl ?_
                exact hj54 ()
              · refine G.loc [0, 1, 2, 3, 4] rfl ?_
                exact hj32 ()
            · refine G.loc [0, 1, 2, 3, 4] rfl ?_
              exact hj32 ()
noncomputable def f_X4_lowestBetween (N : Nat) (σ : Wd) (a0 : Int32) (a1 : Int32) (a2 : Int32) : Option (Int32) :=
  fl_X4_lowestBetween_3 N σ a0 a1 a2 (fun (_ : Unit) =>
    some (-1)) N 0
set_option maxHeartbeats 4000000 in
set_option maxRecDepth 100000 in
theorem c_X4_lowestBetween {l : Launch} {D : va_G} {cy : Nat → ClassId} {h : Nat → Nat} {N : Nat} {σ : Wd} {a0 : Int32} {a1 : Int32} {a2 : Int32} {r : Int32} (hW : WF (wsC cy h) (adC h)) (hr : f_X4_lowestBetween N σ a0 a1 a2 = some r) : Con l D cy (wsC cy h) (adC h) yX4_lowestBetween wsX4_lowestBetween rm_X4_lowestBetween 0 0 [.ref (h 1), .int a0, .int a1, .int a2] (some (.int r)) σ σ := by
  refine Con.of (ρ := Int32) (lv0 := [(0, .ref (h 1)), (1, .int a0), (2, .int a1), (3, .int a2)]) (σ := σ) (fun r : Int32 => some (.int r)) (fun _ => σ) (by decide) rfl rfl (Nat.le_of_ble_eq_true rfl) rfl hW hr (fun p e s m args below meth c E => ?_)
  unfold f_X4_lowestBetween
  refine G.iconst (v := 0) E dX4_lowestBetween_0 (by decide) ?_
  refine G.istore (lv' := [(4, .int 0), (0, .ref (h 1)), (1, .int a0), (2, .int a1), (3, .int a2)]) E dX4_lowestBetween_1 (by decide) rfl ?_
  refine G.loc [1, 2, 3, 4, 0] rfl ?_
  refine gl_X4_lowestBetween_3 E (fun _ => ?_) N _
  refine G.iconst (v := (-1)) E dX4_lowestBetween_90 (by decide) ?_
  exact G.iret E dX4_lowestBetween_91 rfl rfl
set_option maxHeartbeats 4000000 in
set_option maxRecDepth 100000 in
theorem iw_X3_planParallel_3 : ∀ w ∈ u_ws RX3 TX3 10, w ∈ wsX3_planParallel := fun _ h => List.mem_cons_of_mem _ (List.mem_append_left _ (List.mem_append_left _ (List.mem_append_right _ h)))
set_option maxHeartbeats 4000000 in
set_option maxRecDepth 100000 in
theorem iw_X3_planParallel_5 : ∀ w ∈ u_ws RX5 TX5 10, w ∈ wsX3_planParallel := fun _ h => List.mem_cons_of_mem _ (List.mem_append_left _ (List.mem_append_right _ h))
abbrev rm_X3_planParallel : Room := { frames := 3, cells := 0, slots := 0, locals := 67 }
noncomputable def f_X3_planParallel (N : Nat) (σ : Wd) (a0 : Int32) : Option (Wd) :=
  bP (f_X4_firstOf N σ a0) fun v1 =>
  bP (f_X4_secondOf N σ a0) fun v2 =>
  bP (f_X4_lowestBetween N σ v1 v2 a0) fun v3 =>
  bP (f_X4_isRing N σ a0) fun v4 =>
  if v4 = 0 then (
    if v3 = (-1) then (
      some σ)
    else (
      wI σ 29 3 a0 fun s5 =>
      bP (f_X4_conductanceOf N s5 a0) fun v6 =>
      bP (f_X4_conductanceOf N s5 v3) fun v7 =>
      wI s5 29 4 (v6 + v7) fun s8 =>
      bP (f_X7_setOf N v3) fun v9 =>
      wI s8 29 2 v9 fun s10 =>
      gI s10 29 4 fun v11 =>
      bP (f_X7_isConductance N v11) fun v12 =>
      zb v12 (wI s10 29 0 v12 fun s13 =>
      some s13)))
  else (
    some σ)
set_option maxHeartbeats 4000000 in
set_option maxRecDepth 100000 in
theorem c_X3_planParallel {l : Launch} {D : va_G} {cy : Nat → ClassId} {h : Nat → Nat} {N : Nat} {σ : Wd} {a0 : Int32} {σ1 : Wd} (hW : WF (wsC cy h) (adC h)) (hr : f_X3_planParallel N σ a0 = some σ1) : Con l D cy (wsC cy h) (adC h) yX3_planParallel wsX3_planParallel rm_X3_planParallel 0 0 [.ref (h 28), .int a0] (none) σ σ1 := by
  refine Con.of (ρ := Wd) (lv0 := [(0, .ref (h 28)), (1, .int a0)]) (σ := σ) (fun _ : Wd => none) (fun r => r) (by decide) rfl rfl (Nat.le_of_ble_eq_true rfl) rfl hW hr (fun p e s m args below meth c E => ?_)
  unfold f_X3_planParallel
  refine G.aload_n E dX3_planParallel_0 0 rfl rfl ?_
  refine G.getR (T := TX3) (N := 10) (C := RX3) (q0 := 28) (i := 0) E dX3_planParallel_1 iw_X3_planParallel_3 (wsC_at28 _ _ _) rfl (by decide) rfl (List.mem_of_getElem? (i := 1) rfl) ?_
  refine G.aload_n E dX3_planParallel_4 0 rfl rfl ?_
  refine G.getR (T := TX3) (N := 10) (C := RX3) (q0 := 28) (i := 0) E dX3_planParallel_5 iw_X3_planParallel_3 (wsC_at28 _ _ _) rfl (by decide) rfl (List.mem_of_getElem? (i := 1) rfl) ?_
  refine G.iload_n E dX3_planParallel_8 1 rfl rfl ?_
  refine G.callVi (n := 1) (T := TX4) (N := 8) (C := RX4) (a := h 1) (q0 := 1) (As := [.int a0]) E dX3_planParallel_9 (fun _ hv => c_X4_firstOf E.wf hv) gX3_planParallel_X4_firstOf rfl rfl rfl (by decide +kernel) ⟨Nat.le_of_ble_eq_true rfl, Nat.le_of_ble_eq_true rfl⟩ (wsC_at1 _ _ _) rfl rfl (Nat.le_of_ble_eq_true rfl) ⟨Nat.le_of_ble_eq_true rfl, Nat.le_of_ble_eq_true rfl⟩ (fun v1 => ?_)
  refine G.aload_n E dX3_planParallel_12 0 rfl rfl ?_
  refine G.getR (T := TX3) (N := 10) (C := RX3) (q0 := 28) (i := 0) E dX3_planParallel_13 iw_X3_planParallel_3 (wsC_at28 _ _ _) rfl (by decide) rfl (List.mem_of_getElem? (i := 1) rfl) ?_
  refine G.iload_n E dX3_planParallel_16 1 rfl rfl ?_
  refine G.callVi (n := 1) (T := TX4) (N := 8) (C := RX4) (a := h 1) (q0 := 1) (As := [.int a0]) E dX3_planParallel_17 (fun _ hv => c_X4_secondOf E.wf hv) gX3_planParallel_X4_secondOf rfl rfl rfl (by decide +kernel) ⟨Nat.le_of_ble_eq_true rfl, Nat.le_of_ble_eq_true rfl⟩ (wsC_at1 _ _ _) rfl rfl (Nat.le_of_ble_eq_true rfl) ⟨Nat.le_of_ble_eq_true rfl, Nat.le_of_ble_eq_true rfl⟩ (fun v2 => ?_)
  refine G.iload_n E dX3_planParallel_20 1 rfl rfl ?_
  refine G.callVi (n := 3) (T := TX4) (N := 8) (C := RX4) (a := h 1) (q0 := 1) (As := [.int v1, .int v2, .int a0]) E dX3_planParallel_21 (fun _ hv => c_X4_lowestBetween E.wf hv) gX3_planParallel_X4_lowestBetween rfl rfl rfl (by decide +kernel) ⟨Nat.le_of_ble_eq_true rfl, Nat.le_of_ble_eq_true rfl⟩ (wsC_at1 _ _ _) rfl rfl (Nat.le_of_ble_eq_true rfl) ⟨Nat.le_of_ble_eq_true rfl, Nat.le_of_ble_eq_true rfl⟩ (fun v3 => ?_)
  refine G.istore_n (lv' := [(2, .int v3), (0, .ref (h 28)), (1, .int a0)]) E dX3_planParallel_24 rfl (by decide) rfl ?_
  refine G.aload_n E dX3_planParallel_25 1 rfl rfl ?_
  refine G.getR (T := TX3) (N := 10) (C := RX3) (q0 := 28) (i := 0) E dX3_planParallel_26 iw_X3_planParallel_3 (wsC_at28 _ _ _) rfl (by decide) rfl (List.mem_of_getElem? (i := 1) rfl) ?_
  refine G.iload_n E dX3_planParallel_29 2 rfl rfl ?_
  refine G.callVi (n := 1) (T := TX4) (N := 8) (C := RX4) (a := h 1) (q0 := 1) (As := [.int a0]) E dX3_planParallel_30 (fun _ hv => c_X4_isRing E.wf hv) gX3_planParallel_X4_isRing rfl rfl rfl (by decide +kernel) ⟨Nat.le_of_ble_eq_true rfl, Nat.le_of_ble_eq_true rfl⟩ (wsC_at1 _ _ _) rfl rfl (Nat.le_of_ble_eq_true rfl) ⟨Nat.le_of_ble_eq_true rfl, Nat.le_of_ble_eq_true rfl⟩ (fun v4 => ?_)
  refine G.if_ne (tgt := 41) E dX3_planParallel_33 (by decide) ?_ ?_
  · refine G.iload_n E dX3_planParallel_36 0 rfl rfl ?_
    refine G.iconst (v := (-1)) E dX3_planParallel_37 (by decide) ?_
    refine G.icmp_ne (tgt := 42) E dX3_planParallel_38 (by decide) ?_ ?_
    · exact G.vret E dX3_planParallel_41 rfl rfl
    · refine G.aload_n E dX3_planParallel_42 1 rfl rfl ?_
      refine G.getR (T := TX3) (N := 10) (C := RX3) (q0 := 28) (i := 1) E dX3_planParallel_43 iw_X3_planParallel_3 (wsC_at28 _ _ _) rfl (by decide) rfl (List.mem_of_getElem? (i := 2) rfl) ?_
      refine G.iload_n E dX3_planParallel_46 2 rfl rfl ?_
      refine G.putI (T := TX5) (N := 10) (C := RX5) (q0 := 29) (i := 3) (ty := .int) E dX3_planParallel_47 iw_X3_planParallel_5 tyX5 tyX5_ok nmX5 (wsC_at29 _ _ _) rfl (by decide) (List.mem_of_getElem? (i := 3) rfl) rfl (by decide +kernel) rfl rfl (Nat.le_of_ble_eq_true rfl) (wsC_set29_3 _ _ _ _) (fun s5 => ?_)
      refine G.aload_n E dX3_planParallel_50 1 rfl rfl ?_
      refine G.getR (T := TX3) (N := 10) (C := RX3) (q0 := 28) (i := 1) E dX3_planParallel_51 iw_X3_planParallel_3 (wsC_at28 _ _ _) rfl (by decide) rfl (List.mem_of_getElem? (i := 2) rfl) ?_
      refine G.aload_n E dX3_planParallel_54 1 rfl rfl ?_
      refine G.getR (T := TX3) (N := 10) (C := RX3) (q0 := 28) (i := 0) E dX3_planParallel_55 iw_X3_planParallel_3 (wsC_at28 _ _ _) rfl (by decide) rfl (List.mem_of_getElem? (i := 1) rfl) ?_
      refine G.iload_n E dX3_planParallel_58 2 rfl rfl ?_
      refine G.callVi (n := 1) (T := TX4) (N := 8) (C := RX4) (a := h 1) (q0 := 1) (As := [.int a0]) E dX3_planParallel_59 (fun _ hv => c_X4_conductanceOf E.wf hv) gX3_planParallel_X4_conductanceOf rfl rfl rfl (by decide +kernel) ⟨Nat.le_of_ble_eq_true rfl, Nat.le_of_ble_eq_true rfl⟩ (wsC_at1 _ _ _) rfl rfl (Nat.le_of_ble_eq_true rfl) ⟨Nat.le_of_ble_eq_true rfl, Nat.le_of_ble_eq_true rfl⟩ (fun v6 => ?_)
      refine G.aload_n E dX3_planParallel_62 1 rfl rfl ?_
      refine G.getR (T := TX3) (N := 10) (C := RX3) (q0 := 28) (i := 0) E dX3_planParallel_63 iw_X3_planParallel_3 (wsC_at28 _ _ _) rfl (by decide) rfl (List.mem_of_getElem? (i := 1) rfl) ?_
      refine G.iload_n E dX3_planParallel_66 0 rfl rfl ?_
      refine G.callVi (n := 1) (T := TX4) (N := 8) (C := RX4) (a := h 1) (q0 := 1) (As := [.int v3]) E dX3_planParallel_67 (fun _ hv => c_X4_conductanceOf E.wf hv) gX3_planParallel_X4_conductanceOf rfl rfl rfl (by decide +kernel) ⟨Nat.le_of_ble_eq_true rfl, Nat.le_of_ble_eq_true rfl⟩ (wsC_at1 _ _ _) rfl rfl (Nat.le_of_ble_eq_true rfl) ⟨Nat.le_of_ble_eq_true rfl, Nat.le_of_ble_eq_true rfl⟩ (fun v7 => ?_)
      refine G.iadd E dX3_planParallel_70 ?_
      refine G.putI (T := TX5) (N := 10) (C := RX5) (q0 := 29) (i := 4) (ty := .int) E dX3_planParallel_71 iw_X3_planParallel_5 tyX5 tyX5_ok nmX5 (wsC_at29 _ _ _) rfl (by decide) (List.mem_of_getElem? (i := 4) rfl) rfl (by decide +kernel) rfl rfl (Nat.le_of_ble_eq_true rfl) (wsC_set29_4 _ _ _ _) (fun s8 => ?_)
      refine G.aload_n E dX3_planParallel_74 1 rfl rfl ?_
      refine G.getR (T := TX3) (N := 10) (C := RX3) (q0 := 28) (i := 1) E dX3_planParallel_75 iw_X3_planParallel_3 (wsC_at28 _ _ _) rfl (by decide) rfl (List.mem_of_getElem? (i := 2) rfl) ?_
      refine G.iload_n E dX3_planParallel_78 0 rfl rfl ?_
      refine G.callNi (n := 1) (As := [.int v3]) E dX3_planParallel_79 (fun _ hv => c_X7_setOf E.wf hv) gX3_planParallel_X7_setOf_n109 (List.mem_of_getElem? (i := 5) rfl) (List.mem_of_getElem? (i := 28) rfl) (List.mem_of_getElem? (i := 41) rfl) rfl rfl rfl (by decide +kernel) ⟨Nat.le_of_ble_eq_true rfl, Nat.le_of_ble_eq_true rfl⟩ rfl (Nat.le_of_ble_eq_true rfl) ⟨Nat.le_of_ble_eq_true rfl, Nat.le_of_ble_eq_true rfl⟩ (fun v9 => ?_)
      refine G.putI (T := TX5) (N := 10) (C := RX5) (q0 := 29) (i := 2) (ty := .int) E dX3_planParallel_82 iw_X3_planParallel_5 tyX5 tyX5_ok nmX5 (wsC_at29 _ _ _) rfl (by decide) (List.mem_of_getElem? (i := 5) rfl) rfl (by decide +kernel) rfl rfl (Nat.le_of_ble_eq_true rfl) (wsC_set29_2 _ _ _ _) (fun s10 => ?_)
      refine G.aload_n E dX3_planParallel_85 1 rfl rfl ?_
      refine G.getR (T := TX3) (N := 10) (C := RX3) (q0 := 28) (i := 1) E dX3_planParallel_86 iw_X3_planParallel_3 (wsC_at28 _ _ _) rfl (by decide) rfl (List.mem_of_getElem? (i := 2) rfl) ?_
      refine G.aload_n E dX3_planParallel_89 1 rfl rfl ?_
      refine G.getR (T := TX3) (N := 10) (C := RX3) (q0 := 28) (i := 1) E dX3_planParallel_90 iw_X3_planParallel_3 (wsC_at28 _ _ _) rfl (by decide) rfl (List.mem_of_getElem? (i := 2) rfl) ?_
      refine G.getI (T := TX5) (N := 10) (C := RX5) (q0 := 29) (i := 4) E dX3_planParallel_93 iw_X3_planParallel_5 (wsC_at29 _ _ _) rfl (by decide) rfl (List.mem_of_getElem? (i := 4) rfl) (fun v11 => ?_)
      refine G.callNi (n := 1) (As := [.int v11]) E dX3_planParallel_96 (fun _ hv => c_X7_isConductance E.wf hv) gX3_planParallel_X7_isConductance_n134 (List.mem_of_getElem? (i := 6) rfl) (List.mem_of_getElem? (i := 28) rfl) (List.mem_of_getElem? (i := 43) rfl) rfl rfl rfl (by decide +kernel) ⟨Nat.le_of_ble_eq_true rfl, Nat.le_of_ble_eq_true rfl⟩ rfl (Nat.le_of_ble_eq_true rfl) ⟨Nat.le_of_ble_eq_true rfl, Nat.le_of_ble_eq_true rfl⟩ (fun v12 => ?_)
      refine G.putZ (T := TX5) (N := 10) (C := RX5) (q0 := 29) (i := 0) E dX3_planParallel_99 iw_X3_planParallel_5 tyX5 tyX5_ok nmX5 (wsC_at29 _ _ _) rfl (by decide) (List.mem_of_getElem? (i := 6) rfl) rfl (by decide +kernel) (Nat.le_of_ble_eq_true rfl) (wsC_set29_0 _ _ _ _) (fun s13 => ?_)
      exact G.vret E dX3_planParallel_102 rfl rfl
  · exact G.vret E dX3_planParallel_41 rfl rfl
set_option maxHeartbeats 4000000 in
set_option maxRecDepth 100000 in
theorem iw_X4_wiresAt_4 : ∀ w ∈ u_ws RX4 TX4 8, w ∈ wsX4_wiresAt := fun _ h => List.mem_cons_of_mem _ (List.mem_append_right _ h)
abbrev rm_X4_wiresAt : Room := { frames := 2, cells := 0, slots := 0, locals := 42 }
noncomputable def fl_X4_wiresAt_4 {ρ : Type} (N : Nat) (σ : Wd) (x1 : Int32) (K : Int32 → Option ρ) : Nat → Int32 → Int32 → Option ρ
  | 0, _, _ => none
  | n + 1, x2, x3 =>
    if 20 ≤ x3 then (
      K x2)
    else (
      bP (f_X4_hasWire N σ x3) fun v1 =>
      jn (fun (v2 : Int32) => ((
        fl_X4_wiresAt_4 N σ x1 K n v2 (x3 + 1)) : Option (ρ))) fun j45 =>
      if v1 = 0 then (
        j45 x2)
      else (
        rI σ 2 20 x3 fun v3 =>
        jn (fun (_u : Unit) => ((
          bP (f_X7_setOf N x3) fun v4 =>
          lI (x2 ||| v4) fun v5 =>
          j45 v5) : Option (ρ))) fun j38 =>
        if v3 = x1 then (
          j38 ())
        else (
          rI σ 3 20 x3 fun v6 =>
          if v6 = x1 then (
            j38 ())
          else (
            j45 x2))))
set_option maxHeartbeats 4000000 in
set_option maxRecDepth 100000 in
theorem gl_X4_wiresAt_4 {ρ : Type} {Q : ρ → State → Prop} {N : Nat} {σ : Wd} {x1 : Int32} {K : Int32 → Option ρ} (E : EV p s m args meth c cX4_wiresAt 4 RX4 wsX4_wiresAt (some .int) D cy (wsC cy h) (adC h)) (hK : ∀ (x2' : Int32), G p l e (headSpec wsX4_wiresAt rm_X4_wiresAt).room s m args below meth c 4 0 0 D (wsC cy h) (adC h) Q 51 [(2, .int (x2'))] [] σ (K x2')) :
  ∀ (n : Nat) (x2 : Int32) (x3 : Int32), G p l e (headSpec wsX4_wiresAt rm_X4_wiresAt).room s m args below meth c 4 0 0 D (wsC cy h) (adC h) Q 4 [(0, .ref (h 1)), (1, .int x1), (2, .int x2), (3, .int x3)] [] σ (fl_X4_wiresAt_4 N σ x1 K n x2 x3) := by
  intro n
  induction n with
  | zero => intros; exact G.no
  | succ n ih =>
    intro x2 x3
    rw [fl_X4_wiresAt_4]
    refine G.iload_n E dX4_wiresAt_4 3 rfl rfl ?_
    refine G.bipush (v := 20) E dX4_wiresAt_5 (by decide) ?_
    refine G.icmp_ge (tgt := 51) E dX4_wiresAt_7 (by decide) ?_ ?_
    · refine G.loc [2] rfl ?_
      exact hK x2
    · refine G.aload_n E dX4_wiresAt_10 0 rfl rfl ?_
      refine G.iload_n E dX4_wiresAt_11 3 rfl rfl ?_
      refine G.callVi (n := 1) (T := TX4) (N := 8) (C := RX4) (a := h 1) (q0 := 1) (As := [.int x3]) E dX4_wiresAt_12 (fun _ hv => c_X4_hasWire E.wf hv) gX4_wiresAt_X4_hasWire rfl rfl rfl (by decide +kernel) ⟨Nat.le_of_ble_eq_true rfl, Nat.le_of_ble_eq_true rfl⟩ (wsC_at1 _ _ _) rfl rfl (Nat.le_of_ble_eq_true rfl) ⟨Nat.le_of_ble_eq_true rfl, Nat.le_of_ble_eq_true rfl⟩ (fun v1 => ?_)
      refine G.jn (P := fun j => ∀ (v2 : Int32), G p l e (headSpec wsX4_wiresAt rm_X4_wiresAt).room s m args below meth c 4 0 0 D (wsC cy h) (adC h) Q 45 [(0, .ref (h 1)), (1, .int x1), (2, .int v2), (3, .int x3)] [] σ (j v2)) ?_ (fun j45 hj45 => ?_)
      · intro v2
        refine G.iinc (v := x3 + 1) (lv' := [(3, .int (x3 + 1)), (0, .ref (h 1)), (1, .int x1), (2, .int v2)]) E dX4_wiresAt_45 3 rfl rfl (by decide) rfl ?_
        refine G.goto (tgt := 4) E dX4_wiresAt_48 (by decide) ?_
        refine G.loc [1, 2, 3, 0] rfl ?_
        exact ih v2 (x3 + 1)
      · refine G.if_eq (tgt := 45) E dX4_wiresAt_15 (by decide) ?_ ?_
        · refine G.loc [0, 1, 2, 3] rfl ?_
          exact hj45 x2
        · refine G.aload_n E dX4_wiresAt_18 0 rfl rfl ?_
          refine G.getR (T := TX4) (N := 8) (C := RX4) (q0 := 1) (i := 5) E dX4_wiresAt_19 iw_X4_wiresAt_4 (wsC_at1 _ _ _) rfl (by decide) rfl (List.mem_of_getElem? (i := 1) rfl) ?_
          refine G.iload_n E dX4_wiresAt_22 3 rfl rfl ?_
          refine G.iald (q0 := 2) E dX4_wiresAt_23 (wsC_at2 _ _ _) (fun v3 => ?_)
          refine G.iload_n E dX4_wiresAt_24 1 rfl rfl ?_
          refine G.jn (P := fun j => ∀ (_u : Unit), G p l e (headSpec wsX4_wiresAt rm_X4_wiresAt).room s m args below meth c 4 0 0 D (wsC cy h) (adC h) Q 38 [(0, .ref (h 1)), (1, .int x1), (2, .int x2), (3, .int x3)] [] σ (j _u)) ?_ (fun j38 hj38 => ?_)
          · intro _u
            refine G.iload_n E dX4_wiresAt_38 2 rfl rfl ?_
            refine G.iload_n E dX4_wiresAt_39 3 rfl rfl ?_
            refine G.callNi (n := 1) (As := [.int x3]) E dX4_wiresAt_40 (fun _ hv => c_X7_setOf E.wf hv) gX4_wiresAt_X7_setOf_n55 (List.mem_of_getElem? (i := 10) rfl) (List.mem_of_getElem? (i := 10) rfl) (List.mem_of_getElem? (i := 12) rfl) rfl rfl rfl (by decide +kernel) ⟨Nat.le_of_ble_eq_true rfl, Nat.le_of_ble_eq_true rfl⟩ rfl (Nat.le_of_ble_eq_true rfl) ⟨Nat.le_of_ble_eq_true rfl, Nat.le_of_ble_eq_true rfl⟩ (fun v4 => ?_)
            refine G.ior E dX4_wiresAt_43 ?_
            refine G.letI (fun v5 => ?_)
            refine G.istore_n (lv' := [(2, .int v5), (0, .ref (h 1)), (1, .int x1), (3, .int x3)]) E dX4_wiresAt_44 rfl (by decide) rfl ?_
            refine G.loc [1, 2, 0, 3] rfl ?_
            exact hj45 v5
          · refine G.icmp_eq (tgt := 38) E dX4_wiresAt_25 (by decide) ?_ ?_
            · refine G.loc [0, 1, 2, 3] rfl ?_
              exact hj38 ()
            · refine G.aload_n E dX4_wiresAt_28 0 rfl rfl ?_
              refine G.getR (T := TX4) (N := 8) (C := RX4) (q0 := 1) (i := 6) E dX4_wiresAt_29 iw_X4_wiresAt_4 (wsC_at1 _ _ _) rfl (by decide) rfl (List.mem_of_getElem? (i := 2) rfl) ?_
              refine G.iload_n E dX4_wiresAt_32 3 rfl rfl ?_
              refine G.iald (q0 := 3) E dX4_wiresAt_33 (wsC_at3 _ _ _) (fun v6 => ?_)
              refine G.iload_n E dX4_wiresAt_34 1 rfl rfl ?_
              refine G.icmp_ne (tgt := 45) E dX4_wiresAt_35 (by decide) ?_ ?_
              · refine G.loc [0, 1, 2, 3] rfl ?_
                exact hj38 ()
              · refine G.loc [0, 1, 2, 3] rfl ?_
                exact hj45 x2
noncomputable def f_X4_wiresAt (N : Nat) (σ : Wd) (a0 : Int32) : Option (Int32) :=
  fl_X4_wiresAt_4 N σ a0 (fun v7 =>
    some v7) N 0 0
set_option maxHeartbeats 4000000 in
set_option maxRecDepth 100000 in
theorem c_X4_wiresAt {l : Launch} {D : va_G} {cy : Nat → ClassId} {h : Nat → Nat} {N : Nat} {σ : Wd} {a0 : Int32} {r : Int32} (hW : WF (wsC cy h) (adC h)) (hr : f_X4_wiresAt N σ a0 = some r) : Con l D cy (wsC cy h) (adC h) yX4_wiresAt wsX4_wiresAt rm_X4_wiresAt 0 0 [.ref (h 1), .int a0] (some (.int r)) σ σ := by
  refine Con.of (ρ := Int32) (lv0 := [(0, .ref (h 1)), (1, .int a0)]) (σ := σ) (fun r : Int32 => some (.int r)) (fun _ => σ) (by decide) rfl rfl (Nat.le_of_ble_eq_true rfl) rfl hW hr (fun p e s m args below meth c E => ?_)
  unfold f_X4_wiresAt
  refine G.iconst (v := 0) E dX4_wiresAt_0 (by decide) ?_
  refine G.istore_n (lv' := [(2, .int 0), (0, .ref (h 1)), (1, .int a0)]) E dX4_wiresAt_1 rfl (by decide) rfl ?_
  refine G.iconst (v := 0) E dX4_wiresAt_2 (by decide) ?_
  refine G.istore_n (lv' := [(3, .int 0), (2, .int 0), (0, .ref (h 1)), (1, .int a0)]) E dX4_wiresAt_3 rfl (by decide) rfl ?_
  refine G.loc [2, 3, 1, 0] rfl ?_
  refine gl_X4_wiresAt_4 E (fun v7 => ?_) N _ _
  refine G.iload_n E dX4_wiresAt_51 0 rfl rfl ?_
  exact G.iret E dX4_wiresAt_52 rfl rfl
set_option maxHeartbeats 4000000 in
set_option maxRecDepth 100000 in
theorem iw_X4_hasEdge_4 : ∀ w ∈ u_ws RX4 TX4 8, w ∈ wsX4_hasEdge := fun _ h => List.mem_cons_of_mem _ (List.mem_append_right _ h)
abbrev rm_X4_hasEdge : Room := { frames := 2, cells := 0, slots := 0, locals := 42 }
noncomputable def f_X4_hasEdge (N : Nat) (σ : Wd) (a0 : Int32) : Option (Int32) :=
  bP (f_X4_hasNode N σ a0) fun v1 =>
  if v1 = 0 then (
    some 0)
  else (
    gI σ 1 1 fun v2 =>
    bP (f_X7_isIn N v2 a0) fun v3 =>
    if v3 = 0 then (
      some 0)
    else (
      some 1))
set_option maxHeartbeats 4000000 in
set_option maxRecDepth 100000 in
theorem c_X4_hasEdge {l : Launch} {D : va_G} {cy : Nat → ClassId} {h : Nat → Nat} {N : Nat} {σ : Wd} {a0 : Int32} {r : Int32} (hW : WF (wsC cy h) (adC h)) (hr : f_X4_hasEdge N σ a0 = some r) : Con l D cy (wsC cy h) (adC h) yX4_hasEdge wsX4_hasEdge rm_X4_hasEdge 0 0 [.ref (h 1), .int a0] (some (.int r)) σ σ := by
  refine Con.of (ρ := Int32) (lv0 := [(0, .ref (h 1)), (1, .int a0)]) (σ := σ) (fun r : Int32 => some (.int r)) (fun _ => σ) (by decide) rfl rfl (Nat.le_of_ble_eq_true rfl) rfl hW hr (fun p e s m args below meth c E => ?_)
  unfold f_X4_hasEdge
  refine G.aload_n E dX4_hasEdge_0 0 rfl rfl ?_
  refine G.iload_n E dX4_hasEdge_1 1 rfl rfl ?_
  refine G.callVi (n := 1) (T := TX4) (N := 8) (C := RX4) (a := h 1) (q0 := 1) (As := [.int a0]) E dX4_hasEdge_2 (fun _ hv => c_X4_hasNode E.wf hv) gX4_hasEdge_X4_hasNode rfl rfl rfl (by decide +kernel) ⟨Nat.le_of_ble_eq_true rfl, Nat.le_of_ble_eq_true rfl⟩ (wsC_at1 _ _ _) rfl rfl (Nat.le_of_ble_eq_true rfl) ⟨Nat.le_of_ble_eq_true rfl, Nat.le_of_ble_eq_true rfl⟩ (fun v1 => ?_)
  refine G.if_eq (tgt := 23) E dX4_hasEdge_5 (by decide) ?_ ?_
  · refine G.iconst (v := 0) E dX4_hasEdge_23 (by decide) ?_
    exact G.zretc E dX4_hasEdge_24 rfl rfl rfl
  · refine G.aload_n E dX4_hasEdge_8 0 rfl rfl ?_
    refine G.getI (T := TX4) (N := 8) (C := RX4) (q0 := 1) (i := 1) E dX4_hasEdge_9 iw_X4_hasEdge_4 (wsC_at1 _ _ _) rfl (by decide) rfl (List.mem_of_getElem? (i := 1) rfl) (fun v2 => ?_)
    refine G.iload_n E dX4_hasEdge_12 1 rfl rfl ?_
    refine G.callNi (n := 2) (As := [.int v2, .int a0]) E dX4_hasEdge_13 (fun _ hv => c_X7_isIn E.wf hv) gX4_hasEdge_X7_isIn_n25 (List.mem_of_getElem? (i := 9) rfl) (List.mem_of_getElem? (i := 9) rfl) (List.mem_of_getElem? (i := 8) rfl) rfl rfl rfl (by decide +kernel) ⟨Nat.le_of_ble_eq_true rfl, Nat.le_of_ble_eq_true rfl⟩ rfl (Nat.le_of_ble_eq_true rfl) ⟨Nat.le_of_ble_eq_true rfl, Nat.le_of_ble_eq_true rfl⟩ (fun v3 => ?_)
    refine G.if_eq (tgt := 23) E dX4_hasEdge_16 (by decide) ?_ ?_
    · refine G.iconst (v := 0) E dX4_hasEdge_23 (by decide) ?_
      exact G.zretc E dX4_hasEdge_24 rfl rfl rfl
    · refine G.iconst (v := 1) E dX4_hasEdge_19 (by decide) ?_
      refine G.goto (tgt := 24) E dX4_hasEdge_20 (by decide) ?_
      exact G.zretc E dX4_hasEdge_24 rfl rfl rfl
set_option maxHeartbeats 4000000 in
set_option maxRecDepth 100000 in
theorem iw_X3_planWithout_3 : ∀ w ∈ u_ws RX3 TX3 10, w ∈ wsX3_planWithout := fun _ h => List.mem_cons_of_mem _ (List.mem_append_left _ (List.mem_append_left _ (List.mem_append_right _ h)))
set_option maxHeartbeats 4000000 in
set_option maxRecDepth 100000 in
theorem iw_X3_planWithout_5 : ∀ w ∈ u_ws RX5 TX5 10, w ∈ wsX3_planWithout := fun _ h => List.mem_cons_of_mem _ (List.mem_append_left _ (List.mem_append_right _ h))
abbrev rm_X3_planWithout : Room := { frames := 3, cells := 0, slots := 0, locals := 65 }
noncomputable def fl_X3_planWithout_42 {ρ : Type} (N : Nat) (x1 : Int32) (x2 : Int32) (x3 : Int32) (K : Int32 → Wd → Option ρ) : Nat → Int32 → Int32 → Int32 → Wd → Option ρ
  | 0, _, _, _, _ => none
  | n + 1, x4, x5, x6, s0 =>
    if 20 ≤ x6 then (
      K x4 s0)
    else (
      bP (f_X7_isIn N x3 x6) fun v5 =>
      jn (fun (v6 : Int32) (v7 : Int32) (s8 : Wd) => ((
        fl_X3_planWithout_42 N x1 x2 x3 K n v6 v7 (x6 + 1) s8) : Option (ρ))) fun j98 =>
      if v5 = 0 then (
        j98 x4 x5 s0)
      else (
        if 3 ≤ x5 then (
          j98 x4 x5 s0)
        else (
          aI s0 33 3 x5 x6 fun s9 =>
          bP (f_X4_farEndOf N s9 x6 x1) fun v10 =>
          bP (f_X7_setOf N v10) fun v11 =>
          lI (x4 ||| v11) fun v12 =>
          j98 v12 (x5 + 1) s9)))
set_option maxHeartbeats 4000000 in
set_option maxRecDepth 100000 in
theorem gl_X3_planWithout_42 {ρ : Type} {Q : ρ → State → Prop} {N : Nat} {x1 : Int32} {x2 : Int32} {x3 : Int32} {K : Int32 → Wd → Option ρ} (E : EV p s m args meth c cX3_planWithout 7 RX3 wsX3_planWithout (some .boolean) D cy (wsC cy h) (adC h)) (hK : ∀ (x4' : Int32) (s' : Wd), G p l e (headSpec wsX3_planWithout rm_X3_planWithout).room s m args below meth c 7 0 0 D (wsC cy h) (adC h) Q 104 [(0, .ref (h 28)), (1, .int x1), (2, .int x2), (3, .int x3), (4, .int (x4'))] [] s' (K x4' s')) :
  ∀ (n : Nat) (x4 : Int32) (x5 : Int32) (x6 : Int32) (s0 : Wd), G p l e (headSpec wsX3_planWithout rm_X3_planWithout).room s m args below meth c 7 0 0 D (wsC cy h) (adC h) Q 42 [(0, .ref (h 28)), (1, .int x1), (2, .int x2), (3, .int x3), (4, .int x4), (5, .int x5), (6, .int x6)] [] s0 (fl_X3_planWithout_42 N x1 x2 x3 K n x4 x5 x6 s0) := by
  intro n
  induction n with
  | zero => intros; exact G.no
  | succ n ih =>
    intro x4 x5 x6 s0
    rw [fl_X3_planWithout_42]
    refine G.iload E dX3_planWithout_42 6 rfl ?_
    refine G.bipush (v := 20) E dX3_planWithout_44 (by decide) ?_
    refine G.icmp_ge (tgt := 104) E dX3_planWithout_46 (by decide) ?_ ?_
    · refine G.loc [0, 1, 2, 3, 4] rfl ?_
      exact hK x4 s0
    · refine G.iload_n E dX3_planWithout_49 3 rfl rfl ?_
      refine G.iload E dX3_planWithout_50 6 rfl ?_
      refine G.callNi (n := 2) (As := [.int x3, .int x6]) E dX3_planWithout_52 (fun _ hv => c_X7_isIn E.wf hv) gX3_planWithout_X7_isIn_n158 (List.mem_of_getElem? (i := 7) rfl) (List.mem_of_getElem? (i := 20) rfl) (List.mem_of_getElem? (i := 19) rfl) rfl rfl rfl (by decide +kernel) ⟨Nat.le_of_ble_eq_true rfl, Nat.le_of_ble_eq_true rfl⟩ rfl (Nat.le_of_ble_eq_true rfl) ⟨Nat.le_of_ble_eq_true rfl, Nat.le_of_ble_eq_true rfl⟩ (fun v5 => ?_)
      refine G.jn (P := fun j => ∀ (v6 : Int32) (v7 : Int32) (s8 : Wd), G p l e (headSpec wsX3_planWithout rm_X3_planWithout).room s m args below meth c 7 0 0 D (wsC cy h) (adC h) Q 98 [(0, .ref (h 28)), (1, .int x1), (2, .int x2), (3, .int x3), (4, .int v6), (5, .int v7), (6, .int x6)] [] s8 (j v6 v7 s8)) ?_ (fun j98 hj98 => ?_)
      · intro v6 v7 s8
        refine G.iinc (v := x6 + 1) (lv' := [(6, .int (x6 + 1)), (0, .ref (h 28)), (1, .int x1), (2, .int x2), (3, .int x3), (4, .int v6), (5, .int v7)]) E dX3_planWithout_98 6 rfl rfl (by decide) rfl ?_
        refine G.goto (tgt := 42) E dX3_planWithout_101 (by decide) ?_
        refine G.loc [1, 2, 3, 4, 5, 6, 0] rfl ?_
        exact ih v6 v7 (x6 + 1) s8
      · refine G.if_eq (tgt := 98) E dX3_planWithout_55 (by decide) ?_ ?_
        · refine G.loc [0, 1, 2, 3, 4, 5, 6] rfl ?_
          exact hj98 x4 x5 s0
        · refine G.iload E dX3_planWithout_58 5 rfl ?_
          refine G.aload_n E dX3_planWithout_60 0 rfl rfl ?_
          refine G.getR (T := TX3) (N := 10) (C := RX3) (q0 := 28) (i := 2) E dX3_planWithout_61 iw_X3_planWithout_3 (wsC_at28 _ _ _) rfl (by decide) rfl (List.mem_of_getElem? (i := 2) rfl) ?_
          refine G.alen (q0 := 33) (t0 := 0) (v := 3) E dX3_planWithout_64 (wsC_at33 _ _ _) rfl rfl ?_
          refine G.icmp_ge (tgt := 98) E dX3_planWithout_65 (by decide) ?_ ?_
          · refine G.loc [0, 1, 2, 3, 4, 5, 6] rfl ?_
            exact hj98 x4 x5 s0
          · refine G.aload_n E dX3_planWithout_68 0 rfl rfl ?_
            refine G.getR (T := TX3) (N := 10) (C := RX3) (q0 := 28) (i := 2) E dX3_planWithout_69 iw_X3_planWithout_3 (wsC_at28 _ _ _) rfl (by decide) rfl (List.mem_of_getElem? (i := 2) rfl) ?_
            refine G.iload E dX3_planWithout_72 5 rfl ?_
            refine G.iload E dX3_planWithout_74 6 rfl ?_
            refine G.iast (q0 := 33) E dX3_planWithout_76 (wsC_at33 _ _ _) (fun j => wsC_set33 _ _ _ _ j) (fun s9 => ?_)
            refine G.iinc (v := x5 + 1) (lv' := [(5, .int (x5 + 1)), (0, .ref (h 28)), (1, .int x1), (2, .int x2), (3, .int x3), (4, .int x4), (6, .int x6)]) E dX3_planWithout_77 5 rfl rfl (by decide) rfl ?_
            refine G.iload E dX3_planWithout_80 5 rfl ?_
            refine G.aload_n E dX3_planWithout_82 1 rfl rfl ?_
            refine G.getR (T := TX3) (N := 10) (C := RX3) (q0 := 28) (i := 0) E dX3_planWithout_83 iw_X3_planWithout_3 (wsC_at28 _ _ _) rfl (by decide) rfl (List.mem_of_getElem? (i := 1) rfl) ?_
            refine G.iload E dX3_planWithout_86 6 rfl ?_
            refine G.iload_n E dX3_planWithout_88 2 rfl rfl ?_
            refine G.callVi (n := 2) (T := TX4) (N := 8) (C := RX4) (a := h 1) (q0 := 1) (As := [.int x6, .int x1]) E dX3_planWithout_89 (fun _ hv => c_X4_farEndOf E.wf hv) gX3_planWithout_X4_farEndOf rfl rfl rfl (by decide +kernel) ⟨Nat.le_of_ble_eq_true rfl, Nat.le_of_ble_eq_true rfl⟩ (wsC_at1 _ _ _) rfl rfl (Nat.le_of_ble_eq_true rfl) ⟨Nat.le_of_ble_eq_true rfl, Nat.le_of_ble_eq_true rfl⟩ (fun v10 => ?_)
            refine G.callNi (n := 1) (As := [.int v10]) E dX3_planWithout_92 (fun _ hv => c_X7_setOf E.wf hv) gX3_planWithout_X7_setOf_n109 (List.mem_of_getElem? (i := 5) rfl) (List.mem_of_getElem? (i := 20) rfl) (List.mem_of_getElem? (i := 22) rfl) rfl rfl rfl (by decide +kernel) ⟨Nat.le_of_ble_eq_true rfl, Nat.le_of_ble_eq_true rfl⟩ rfl (Nat.le_of_ble_eq_true rfl) ⟨Nat.le_of_ble_eq_true rfl, Nat.le_of_ble_eq_true rfl⟩ (fun v11 => ?_)
            refine G.ior E dX3_planWithout_95 ?_
            refine G.letI (fun v12 => ?_)
            refine G.istore (lv' := [(4, .int v12), (5, .int (x5 + 1)), (0, .ref (h 28)), (1, .int x1), (2, .int x2), (3, .int x3), (6, .int x6)]) E dX3_planWithout_96 (by decide) rfl ?_
            refine G.loc [2, 3, 4, 5, 0, 1, 6] rfl ?_
            exact hj98 v12 (x5 + 1) s9
noncomputable def f_X3_planWithout (N : Nat) (σ : Wd) (a0 : Int32) (a1 : Int32) : Option (Int32 × Wd) :=
  bP (f_X4_wiresAt N σ a0) fun v1 =>
  bP (f_X4_hasEdge N σ a0) fun v2 =>
  if v2 = 0 then (
    bP (f_J6_bitCount_0f7a4 N v1) fun v3 =>
    if v3 = a1 then (
      bP (f_X7_setOf N a0) fun v4 =>
      fl_X3_planWithout_42 N a0 a1 v1 (fun v13 s14 =>
        bP (f_X7_setOf N a0) fun v15 =>
        wI s14 29 1 v15 fun s16 =>
        wI s16 29 2 v1 fun s17 =>
        bP (f_J6_bitCount_0f7a4 N v13) fun v18 =>
        jn (fun (v19 : Int32) => ((
          zb v19 (wI s17 29 0 v19 fun s20 =>
          gI s20 29 0 fun v21 =>
          zb v21 (some (v21, s20)))) : Option (Int32 × Wd))) fun j143 =>
        if v18 = (a1 + 1) then (
          j143 1)
        else (
          j143 0)) N v4 0 0 σ)
    else (
      some (0, σ)))
  else (
    some (0, σ))
set_option maxHeartbeats 4000000 in
set_option maxRecDepth 100000 in
theorem c_X3_planWithout {l : Launch} {D : va_G} {cy : Nat → ClassId} {h : Nat → Nat} {N : Nat} {σ : Wd} {a0 : Int32} {a1 : Int32} {r : Int32} {σ1 : Wd} (hW : WF (wsC cy h) (adC h)) (hr : f_X3_planWithout N σ a0 a1 = some (r, σ1)) : Con l D cy (wsC cy h) (adC h) yX3_planWithout wsX3_planWithout rm_X3_planWithout 0 0 [.ref (h 28), .int a0, .int a1] (some (.int r)) σ σ1 := by
  refine Con.of (ρ := Int32 × Wd) (lv0 := [(0, .ref (h 28)), (1, .int a0), (2, .int a1)]) (σ := σ) (fun r : Int32 × Wd => some (.int r.1)) (fun r => r.2) (by decide) rfl rfl (Nat.le_of_ble_eq_true rfl) rfl hW hr (fun p e s m args below meth c E => ?_)
  unfold f_X3_planWithout
  refine G.aload_n E dX3_planWithout_0 0 rfl rfl ?_
  refine G.getR (T := TX3) (N := 10) (C := RX3) (q0 := 28) (i := 0) E dX3_planWithout_1 iw_X3_planWithout_3 (wsC_at28 _ _ _) rfl (by decide) rfl (List.mem_of_getElem? (i := 1) rfl) ?_
  refine G.iload_n E dX3_planWithout_4 1 rfl rfl ?_
  refine G.callVi (n := 1) (T := TX4) (N := 8) (C := RX4) (a := h 1) (q0 := 1) (As := [.int a0]) E dX3_planWithout_5 (fun _ hv => c_X4_wiresAt E.wf hv) gX3_planWithout_X4_wiresAt rfl rfl rfl (by decide +kernel) ⟨Nat.le_of_ble_eq_true rfl, Nat.le_of_ble_eq_true rfl⟩ (wsC_at1 _ _ _) rfl rfl (Nat.le_of_ble_eq_true rfl) ⟨Nat.le_of_ble_eq_true rfl, Nat.le_of_ble_eq_true rfl⟩ (fun v1 => ?_)
  refine G.istore_n (lv' := [(3, .int v1), (0, .ref (h 28)), (1, .int a0), (2, .int a1)]) E dX3_planWithout_8 rfl (by decide) rfl ?_
  refine G.aload_n E dX3_planWithout_9 1 rfl rfl ?_
  refine G.getR (T := TX3) (N := 10) (C := RX3) (q0 := 28) (i := 0) E dX3_planWithout_10 iw_X3_planWithout_3 (wsC_at28 _ _ _) rfl (by decide) rfl (List.mem_of_getElem? (i := 1) rfl) ?_
  refine G.iload_n E dX3_planWithout_13 2 rfl rfl ?_
  refine G.callVi (n := 1) (T := TX4) (N := 8) (C := RX4) (a := h 1) (q0 := 1) (As := [.int a0]) E dX3_planWithout_14 (fun _ hv => c_X4_hasEdge E.wf hv) gX3_planWithout_X4_hasEdge rfl rfl rfl (by decide +kernel) ⟨Nat.le_of_ble_eq_true rfl, Nat.le_of_ble_eq_true rfl⟩ (wsC_at1 _ _ _) rfl rfl (Nat.le_of_ble_eq_true rfl) ⟨Nat.le_of_ble_eq_true rfl, Nat.le_of_ble_eq_true rfl⟩ (fun v2 => ?_)
  refine G.if_ne (tgt := 28) E dX3_planWithout_17 (by decide) ?_ ?_
  · refine G.iload_n E dX3_planWithout_20 0 rfl rfl ?_
    refine G.callSi (n := 1) (As := [.int v1]) E dX3_planWithout_21 (fun _ hv => c_J6_bitCount_0f7a4 E.wf hv) gX3_planWithout_J6_bitCount_0f7a4 rfl rfl rfl (by decide +kernel) ⟨Nat.le_of_ble_eq_true rfl, Nat.le_of_ble_eq_true rfl⟩ rfl (Nat.le_of_ble_eq_true rfl) ⟨Nat.le_of_ble_eq_true rfl, Nat.le_of_ble_eq_true rfl⟩ (fun v3 => ?_)
    refine G.iload_n E dX3_planWithout_24 3 rfl rfl ?_
    refine G.icmp_eq (tgt := 30) E dX3_planWithout_25 (by decide) ?_ ?_
    · refine G.iload_n E dX3_planWithout_30 2 rfl rfl ?_
      refine G.callNi (n := 1) (As := [.int a0]) E dX3_planWithout_31 (fun _ hv => c_X7_setOf E.wf hv) gX3_planWithout_X7_setOf_n109 (List.mem_of_getElem? (i := 5) rfl) (List.mem_of_getElem? (i := 20) rfl) (List.mem_of_getElem? (i := 22) rfl) rfl rfl rfl (by decide +kernel) ⟨Nat.le_of_ble_eq_true rfl, Nat.le_of_ble_eq_true rfl⟩ rfl (Nat.le_of_ble_eq_true rfl) ⟨Nat.le_of_ble_eq_true rfl, Nat.le_of_ble_eq_true rfl⟩ (fun v4 => ?_)
      refine G.istore (lv' := [(4, .int v4), (3, .int v1), (0, .ref (h 28)), (1, .int a0), (2, .int a1)]) E dX3_planWithout_34 (by decide) rfl ?_
      refine G.iconst (v := 0) E dX3_planWithout_36 (by decide) ?_
      refine G.istore (lv' := [(5, .int 0), (4, .int v4), (3, .int v1), (0, .ref (h 28)), (1, .int a0), (2, .int a1)]) E dX3_planWithout_37 (by decide) rfl ?_
      refine G.iconst (v := 0) E dX3_planWithout_39 (by decide) ?_
      refine G.istore (lv' := [(6, .int 0), (5, .int 0), (4, .int v4), (3, .int v1), (0, .ref (h 28)), (1, .int a0), (2, .int a1)]) E dX3_planWithout_40 (by decide) rfl ?_
      refine G.loc [4, 5, 6, 3, 2, 1, 0] rfl ?_
      refine gl_X3_planWithout_42 E (fun v13 s14 => ?_) N _ _ _ _
      refine G.aload_n E dX3_planWithout_104 0 rfl rfl ?_
      refine G.getR (T := TX3) (N := 10) (C := RX3) (q0 := 28) (i := 1) E dX3_planWithout_105 iw_X3_planWithout_3 (wsC_at28 _ _ _) rfl (by decide) rfl (List.mem_of_getElem? (i := 3) rfl) ?_
      refine G.iload_n E dX3_planWithout_108 1 rfl rfl ?_
      refine G.callNi (n := 1) (As := [.int a0]) E dX3_planWithout_109 (fun _ hv => c_X7_setOf E.wf hv) gX3_planWithout_X7_setOf_n109 (List.mem_of_getElem? (i := 5) rfl) (List.mem_of_getElem? (i := 20) rfl) (List.mem_of_getElem? (i := 22) rfl) rfl rfl rfl (by decide +kernel) ⟨Nat.le_of_ble_eq_true rfl, Nat.le_of_ble_eq_true rfl⟩ rfl (Nat.le_of_ble_eq_true rfl) ⟨Nat.le_of_ble_eq_true rfl, Nat.le_of_ble_eq_true rfl⟩ (fun v15 => ?_)
      refine G.putI (T := TX5) (N := 10) (C := RX5) (q0 := 29) (i := 1) (ty := .int) E dX3_planWithout_112 iw_X3_planWithout_5 tyX5 tyX5_ok nmX5 (wsC_at29 _ _ _) rfl (by decide) (List.mem_of_getElem? (i := 4) rfl) rfl (by decide +kernel) rfl rfl (Nat.le_of_ble_eq_true rfl) (wsC_set29_1 _ _ _ _) (fun s16 => ?_)
      refine G.aload_n E dX3_planWithout_115 0 rfl rfl ?_
      refine G.getR (T := TX3) (N := 10) (C := RX3) (q0 := 28) (i := 1) E dX3_planWithout_116 iw_X3_planWithout_3 (wsC_at28 _ _ _) rfl (by decide) rfl (List.mem_of_getElem? (i := 3) rfl) ?_
      refine G.iload_n E dX3_planWithout_119 3 rfl rfl ?_
      refine G.putI (T := TX5) (N := 10) (C := RX5) (q0 := 29) (i := 2) (ty := .int) E dX3_planWithout_120 iw_X3_planWithout_5 tyX5 tyX5_ok nmX5 (wsC_at29 _ _ _) rfl (by decide) (List.mem_of_getElem? (i := 5) rfl) rfl (by decide +kernel) rfl rfl (Nat.le_of_ble_eq_true rfl) (wsC_set29_2 _ _ _ _) (fun s17 => ?_)
      refine G.aload_n E dX3_planWithout_123 0 rfl rfl ?_
      refine G.getR (T := TX3) (N := 10) (C := RX3) (q0 := 28) (i := 1) E dX3_planWithout_124 iw_X3_planWithout_3 (wsC_at28 _ _ _) rfl (by decide) rfl (List.mem_of_getElem? (i := 3) rfl) ?_
      refine G.iload E dX3_planWithout_127 4 rfl ?_
      refine G.callSi (n := 1) (As := [.int v13]) E dX3_planWithout_129 (fun _ hv => c_J6_bitCount_0f7a4 E.wf hv) gX3_planWithout_J6_bitCount_0f7a4 rfl rfl rfl (by decide +kernel) ⟨Nat.le_of_ble_eq_true rfl, Nat.le_of_ble_eq_true rfl⟩ rfl (Nat.le_of_ble_eq_true rfl) ⟨Nat.le_of_ble_eq_true rfl, Nat.le_of_ble_eq_true rfl⟩ (fun v18 => ?_)
      refine G.iload_n E dX3_planWithout_132 2 rfl rfl ?_
      refine G.iconst (v := 1) E dX3_planWithout_133 (by decide) ?_
      refine G.iadd E dX3_planWithout_134 ?_
      refine G.jn (P := fun j => ∀ (v19 : Int32), G p l e (headSpec wsX3_planWithout rm_X3_planWithout).room s m args below meth c 7 0 0 D (wsC cy h) (adC h) (QM D (wsC cy h) (adC h) below args s 0 0 (fun r : Int32 × Wd => some (.int r.1)) (fun r => r.2)) 143 [(0, .ref (h 28))] [.int v19, .ref (h 29)] s17 (j v19)) ?_ (fun j143 hj143 => ?_)
      · intro v19
        refine G.putZ (T := TX5) (N := 10) (C := RX5) (q0 := 29) (i := 0) E dX3_planWithout_143 iw_X3_planWithout_5 tyX5 tyX5_ok nmX5 (wsC_at29 _ _ _) rfl (by decide) (List.mem_of_getElem? (i := 6) rfl) rfl (by decide +kernel) (Nat.le_of_ble_eq_true rfl) (wsC_set29_0 _ _ _ _) (fun s20 => ?_)
        refine G.aload_n E dX3_planWithout_146 0 rfl rfl ?_
        refine G.getR (T := TX3) (N := 10) (C := RX3) (q0 := 28) (i := 1) E dX3_planWithout_147 iw_X3_planWithout_3 (wsC_at28 _ _ _) rfl (by decide) rfl (List.mem_of_getElem? (i := 3) rfl) ?_
        refine G.getI (T := TX5) (N := 10) (C := RX5) (q0 := 29) (i := 0) E dX3_planWithout_150 iw_X3_planWithout_5 (wsC_at29 _ _ _) rfl (by decide) rfl (List.mem_of_getElem? (i := 6) rfl) (fun v21 => ?_)
        exact G.zret E dX3_planWithout_153 rfl rfl
      · refine G.icmp_ne (tgt := 142) E dX3_planWithout_135 (by decide) ?_ ?_
        · refine G.iconst (v := 1) E dX3_planWithout_138 (by decide) ?_
          refine G.goto (tgt := 143) E dX3_planWithout_139 (by decide) ?_
          refine G.loc [0] rfl ?_
          exact hj143 1
        · refine G.iconst (v := 0) E dX3_planWithout_142 (by decide) ?_
          refine G.loc [0] rfl ?_
          exact hj143 0
    · refine G.iconst (v := 0) E dX3_planWithout_28 (by decide) ?_
      exact G.zretc E dX3_planWithout_29 rfl rfl rfl
  · refine G.iconst (v := 0) E dX3_planWithout_28 (by decide) ?_
    exact G.zretc E dX3_planWithout_29 rfl rfl rfl
abbrev rm_X3_planSpike : Room := { frames := 4, cells := 0, slots := 0, locals := 91 }
noncomputable def f_X3_planSpike (N : Nat) (σ : Wd) (a0 : Int32) : Option (Wd) :=
  bS (f_X3_planWithout N σ a0 1) fun v1 s2 =>
  some s2
set_option maxHeartbeats 4000000 in
set_option maxRecDepth 100000 in
theorem c_X3_planSpike {l : Launch} {D : va_G} {cy : Nat → ClassId} {h : Nat → Nat} {N : Nat} {σ : Wd} {a0 : Int32} {σ1 : Wd} (hW : WF (wsC cy h) (adC h)) (hr : f_X3_planSpike N σ a0 = some σ1) : Con l D cy (wsC cy h) (adC h) yX3_planSpike wsX3_planSpike rm_X3_planSpike 0 0 [.ref (h 28), .int a0] (none) σ σ1 := by
  refine Con.of (ρ := Wd) (lv0 := [(0, .ref (h 28)), (1, .int a0)]) (σ := σ) (fun _ : Wd => none) (fun r => r) (by decide) rfl rfl (Nat.le_of_ble_eq_true rfl) rfl hW hr (fun p e s m args below meth c E => ?_)
  unfold f_X3_planSpike
  refine G.aload_n E dX3_planSpike_0 0 rfl rfl ?_
  refine G.iload_n E dX3_planSpike_1 1 rfl rfl ?_
  refine G.iconst (v := 1) E dX3_planSpike_2 (by decide) ?_
  refine G.callVis (n := 2) (T := TX3) (N := 10) (C := RX3) (a := h 28) (q0 := 28) (As := [.int a0, .int 1]) E dX3_planSpike_3 (fun _ _ hv => c_X3_planWithout E.wf hv) gX3_planSpike_X3_planWithout rfl rfl rfl (by decide +kernel) ⟨Nat.le_of_ble_eq_true rfl, Nat.le_of_ble_eq_true rfl⟩ (wsC_at28 _ _ _) rfl rfl (Nat.le_of_ble_eq_true rfl) ⟨Nat.le_of_ble_eq_true rfl, Nat.le_of_ble_eq_true rfl⟩ (fun v1 s2 => ?_)
  refine G.pop E dX3_planSpike_6 rfl ?_
  exact G.vret E dX3_planSpike_7 rfl rfl
abbrev rm_X3_planSeries : Room := { frames := 4, cells := 0, slots := 0, locals := 91 }
noncomputable def f_X3_planSeries (N : Nat) (σ : Wd) (a0 : Int32) : Option (Wd) :=
  bS (f_X3_planWithout N σ a0 2) fun v1 s2 =>
  if v1 = 0 then (
    some s2)
  else (
    bP (f_X3_conductanceOfSpoke N s2 0) fun v3 =>
    bP (f_X3_conductanceOfSpoke N s2 1) fun v4 =>
    lI (v3 + v4) fun v5 =>
    bP (f_X3_bringAcross N s2 a0 0 1 v5) fun s6 =>
    some s6)
set_option maxHeartbeats 4000000 in
set_option maxRecDepth 100000 in
theorem c_X3_planSeries {l : Launch} {D : va_G} {cy : Nat → ClassId} {h : Nat → Nat} {N : Nat} {σ : Wd} {a0 : Int32} {σ1 : Wd} (hW : WF (wsC cy h) (adC h)) (hr : f_X3_planSeries N σ a0 = some σ1) : Con l D cy (wsC cy h) (adC h) yX3_planSeries wsX3_planSeries rm_X3_planSeries 0 0 [.ref (h 28), .int a0] (none) σ σ1 := by
  refine Con.of (ρ := Wd) (lv0 := [(0, .ref (h 28)), (1, .int a0)]) (σ := σ) (fun _ : Wd => none) (fun r => r) (by decide) rfl rfl (Nat.le_of_ble_eq_true rfl) rfl hW hr (fun p e s m args below meth c E => ?_)
  unfold f_X3_planSeries
  refine G.aload_n E dX3_planSeries_0 0 rfl rfl ?_
  refine G.iload_n E dX3_planSeries_1 1 rfl rfl ?_
  refine G.iconst (v := 2) E dX3_planSeries_2 (by decide) ?_
  refine G.callVis (n := 2) (T := TX3) (N := 10) (C := RX3) (a := h 28) (q0 := 28) (As := [.int a0, .int 2]) E dX3_planSeries_3 (fun _ _ hv => c_X3_planWithout E.wf hv) gX3_planSeries_X3_planWithout rfl rfl rfl (by decide +kernel) ⟨Nat.le_of_ble_eq_true rfl, Nat.le_of_ble_eq_true rfl⟩ (wsC_at28 _ _ _) rfl rfl (Nat.le_of_ble_eq_true rfl) ⟨Nat.le_of_ble_eq_true rfl, Nat.le_of_ble_eq_true rfl⟩ (fun v1 s2 => ?_)
  refine G.if_eq (tgt := 29) E dX3_planSeries_6 (by decide) ?_ ?_
  · exact G.vret E dX3_planSeries_29 rfl rfl
  · refine G.aload_n E dX3_planSeries_9 0 rfl rfl ?_
    refine G.iconst (v := 0) E dX3_planSeries_10 (by decide) ?_
    refine G.callVi (n := 1) (T := TX3) (N := 10) (C := RX3) (a := h 28) (q0 := 28) (As := [.int 0]) E dX3_planSeries_11 (fun _ hv => c_X3_conductanceOfSpoke E.wf hv) gX3_planSeries_X3_conductanceOfSpoke rfl rfl rfl (by decide +kernel) ⟨Nat.le_of_ble_eq_true rfl, Nat.le_of_ble_eq_true rfl⟩ (wsC_at28 _ _ _) rfl rfl (Nat.le_of_ble_eq_true rfl) ⟨Nat.le_of_ble_eq_true rfl, Nat.le_of_ble_eq_true rfl⟩ (fun v3 => ?_)
    refine G.aload_n E dX3_planSeries_14 0 rfl rfl ?_
    refine G.iconst (v := 1) E dX3_planSeries_15 (by decide) ?_
    refine G.callVi (n := 1) (T := TX3) (N := 10) (C := RX3) (a := h 28) (q0 := 28) (As := [.int 1]) E dX3_planSeries_16 (fun _ hv => c_X3_conductanceOfSpoke E.wf hv) gX3_planSeries_X3_conductanceOfSpoke rfl rfl rfl (by decide +kernel) ⟨Nat.le_of_ble_eq_true rfl, Nat.le_of_ble_eq_true rfl⟩ (wsC_at28 _ _ _) rfl rfl (Nat.le_of_ble_eq_true rfl) ⟨Nat.le_of_ble_eq_true rfl, Nat.le_of_ble_eq_true rfl⟩ (fun v4 => ?_)
    refine G.iadd E dX3_planSeries_19 ?_
    refine G.letI (fun v5 => ?_)
    refine G.istore_n (lv' := [(2, .int v5), (0, .ref (h 28)), (1, .int a0)]) E dX3_planSeries_20 rfl (by decide) rfl ?_
    refine G.aload_n E dX3_planSeries_21 1 rfl rfl ?_
    refine G.iload_n E dX3_planSeries_22 2 rfl rfl ?_
    refine G.iconst (v := 0) E dX3_planSeries_23 (by decide) ?_
    refine G.iconst (v := 1) E dX3_planSeries_24 (by decide) ?_
    refine G.iload_n E dX3_planSeries_25 0 rfl rfl ?_
    refine G.callVv (n := 4) (T := TX3) (N := 10) (C := RX3) (a := h 28) (q0 := 28) (As := [.int a0, .int 0, .int 1, .int v5]) E dX3_planSeries_26 (fun _ hv => c_X3_bringAcross E.wf hv) gX3_planSeries_X3_bringAcross rfl rfl rfl (by decide +kernel) ⟨Nat.le_of_ble_eq_true rfl, Nat.le_of_ble_eq_true rfl⟩ (wsC_at28 _ _ _) rfl rfl (Nat.le_of_ble_eq_true rfl) ⟨Nat.le_of_ble_eq_true rfl, Nat.le_of_ble_eq_true rfl⟩ (fun s6 => ?_)
    exact G.vret E dX3_planSeries_29 rfl rfl
abbrev rm_X3_planTriangle : Room := { frames := 4, cells := 0, slots := 0, locals := 91 }
noncomputable def f_X3_planTriangle (N : Nat) (σ : Wd) (a0 : Int32) : Option (Wd) :=
  bS (f_X3_planWithout N σ a0 3) fun v1 s2 =>
  if v1 = 0 then (
    some s2)
  else (
    bP (f_X3_conductanceOfSpoke N s2 0) fun v3 =>
    bP (f_X3_conductanceOfSpoke N s2 1) fun v4 =>
    bP (f_X3_conductanceOfSpoke N s2 2) fun v5 =>
    lI ((v3 + v4) + v5) fun v6 =>
    bP (f_X3_bringAcross N s2 a0 0 1 v6) fun s7 =>
    bP (f_X3_bringAcross N s7 a0 0 2 v6) fun s8 =>
    bP (f_X3_bringAcross N s8 a0 1 2 v6) fun s9 =>
    some s9)
set_option maxHeartbeats 4000000 in
set_option maxRecDepth 100000 in
theorem c_X3_planTriangle {l : Launch} {D : va_G} {cy : Nat → ClassId} {h : Nat → Nat} {N : Nat} {σ : Wd} {a0 : Int32} {σ1 : Wd} (hW : WF (wsC cy h) (adC h)) (hr : f_X3_planTriangle N σ a0 = some σ1) : Con l D cy (wsC cy h) (adC h) yX3_planTriangle wsX3_planTriangle rm_X3_planTriangle 0 0 [.ref (h 28), .int a0] (none) σ σ1 := by
  refine Con.of (ρ := Wd) (lv0 := [(0, .ref (h 28)), (1, .int a0)]) (σ := σ) (fun _ : Wd => none) (fun r => r) (by decide) rfl rfl (Nat.le_of_ble_eq_true rfl) rfl hW hr (fun p e s m args below meth c E => ?_)
  unfold f_X3_planTriangle
  refine G.aload_n E dX3_planTriangle_0 0 rfl rfl ?_
  refine G.iload_n E dX3_planTriangle_1 1 rfl rfl ?_
  refine G.iconst (v := 3) E dX3_planTriangle_2 (by decide) ?_
  refine G.callVis (n := 2) (T := TX3) (N := 10) (C := RX3) (a := h 28) (q0 := 28) (As := [.int a0, .int 3]) E dX3_planTriangle_3 (fun _ _ hv => c_X3_planWithout E.wf hv) gX3_planTriangle_X3_planWithout rfl rfl rfl (by decide +kernel) ⟨Nat.le_of_ble_eq_true rfl, Nat.le_of_ble_eq_true rfl⟩ (wsC_at28 _ _ _) rfl rfl (Nat.le_of_ble_eq_true rfl) ⟨Nat.le_of_ble_eq_true rfl, Nat.le_of_ble_eq_true rfl⟩ (fun v1 s2 => ?_)
  refine G.if_eq (tgt := 51) E dX3_planTriangle_6 (by decide) ?_ ?_
  · exact G.vret E dX3_planTriangle_51 rfl rfl
  · refine G.aload_n E dX3_planTriangle_9 0 rfl rfl ?_
    refine G.iconst (v := 0) E dX3_planTriangle_10 (by decide) ?_
    refine G.callVi (n := 1) (T := TX3) (N := 10) (C := RX3) (a := h 28) (q0 := 28) (As := [.int 0]) E dX3_planTriangle_11 (fun _ hv => c_X3_conductanceOfSpoke E.wf hv) gX3_planTriangle_X3_conductanceOfSpoke rfl rfl rfl (by decide +kernel) ⟨Nat.le_of_ble_eq_true rfl, Nat.le_of_ble_eq_true rfl⟩ (wsC_at28 _ _ _) rfl rfl (Nat.le_of_ble_eq_true rfl) ⟨Nat.le_of_ble_eq_true rfl, Nat.le_of_ble_eq_true rfl⟩ (fun v3 => ?_)
    refine G.aload_n E dX3_planTriangle_14 0 rfl rfl ?_
    refine G.iconst (v := 1) E dX3_planTriangle_15 (by decide) ?_
    refine G.callVi (n := 1) (T := TX3) (N := 10) (C := RX3) (a := h 28) (q0 := 28) (As := [.int 1]) E dX3_planTriangle_16 (fun _ hv => c_X3_conductanceOfSpoke E.wf hv) gX3_planTriangle_X3_conductanceOfSpoke rfl rfl rfl (by decide +kernel) ⟨Nat.le_of_ble_eq_true rfl, Nat.le_of_ble_eq_true rfl⟩ (wsC_at28 _ _ _) rfl rfl (Nat.le_of_ble_eq_true rfl) ⟨Nat.le_of_ble_eq_true rfl, Nat.le_of_ble_eq_true rfl⟩ (fun v4 => ?_)
    refine G.iadd E dX3_planTriangle_19 ?_
    refine G.aload_n E dX3_planTriangle_20 0 rfl rfl ?_
    refine G.iconst (v := 2) E dX3_planTriangle_21 (by decide) ?_
    refine G.callVi (n := 1) (T := TX3) (N := 10) (C := RX3) (a := h 28) (q0 := 28) (As := [.int 2]) E dX3_planTriangle_22 (fun _ hv => c_X3_conductanceOfSpoke E.wf hv) gX3_planTriangle_X3_conductanceOfSpoke rfl rfl rfl (by decide +kernel) ⟨Nat.le_of_ble_eq_true rfl, Nat.le_of_ble_eq_true rfl⟩ (wsC_at28 _ _ _) rfl rfl (Nat.le_of_ble_eq_true rfl) ⟨Nat.le_of_ble_eq_true rfl, Nat.le_of_ble_eq_true rfl⟩ (fun v5 => ?_)
    refine G.iadd E dX3_planTriangle_25 ?_
    refine G.letI (fun v6 => ?_)
    refine G.istore_n (lv' := [(2, .int v6), (0, .ref (h 28)), (1, .int a0)]) E dX3_planTriangle_26 rfl (by decide) rfl ?_
    refine G.aload_n E dX3_planTriangle_27 1 rfl rfl ?_
    refine G.iload_n E dX3_planTriangle_28 2 rfl rfl ?_
    refine G.iconst (v := 0) E dX3_planTriangle_29 (by decide) ?_
    refine G.iconst (v := 1) E dX3_planTriangle_30 (by decide) ?_
    refine G.iload_n E dX3_planTriangle_31 0 rfl rfl ?_
    refine G.callVv (n := 4) (T := TX3) (N := 10) (C := RX3) (a := h 28) (q0 := 28) (As := [.int a0, .int 0, .int 1, .int v6]) E dX3_planTriangle_32 (fun _ hv => c_X3_bringAcross E.wf hv) gX3_planTriangle_X3_bringAcross rfl rfl rfl (by decide +kernel) ⟨Nat.le_of_ble_eq_true rfl, Nat.le_of_ble_eq_true rfl⟩ (wsC_at28 _ _ _) rfl rfl (Nat.le_of_ble_eq_true rfl) ⟨Nat.le_of_ble_eq_true rfl, Nat.le_of_ble_eq_true rfl⟩ (fun s7 => ?_)
    refine G.aload_n E dX3_planTriangle_35 1 rfl rfl ?_
    refine G.iload_n E dX3_planTriangle_36 2 rfl rfl ?_
    refine G.iconst (v := 0) E dX3_planTriangle_37 (by decide) ?_
    refine G.iconst (v := 2) E dX3_planTriangle_38 (by decide) ?_
    refine G.iload_n E dX3_planTriangle_39 0 rfl rfl ?_
    refine G.callVv (n := 4) (T := TX3) (N := 10) (C := RX3) (a := h 28) (q0 := 28) (As := [.int a0, .int 0, .int 2, .int v6]) E dX3_planTriangle_40 (fun _ hv => c_X3_bringAcross E.wf hv) gX3_planTriangle_X3_bringAcross rfl rfl rfl (by decide +kernel) ⟨Nat.le_of_ble_eq_true rfl, Nat.le_of_ble_eq_true rfl⟩ (wsC_at28 _ _ _) rfl rfl (Nat.le_of_ble_eq_true rfl) ⟨Nat.le_of_ble_eq_true rfl, Nat.le_of_ble_eq_true rfl⟩ (fun s8 => ?_)
    refine G.aload_n E dX3_planTriangle_43 1 rfl rfl ?_
    refine G.iload_n E dX3_planTriangle_44 2 rfl rfl ?_
    refine G.iconst (v := 1) E dX3_planTriangle_45 (by decide) ?_
    refine G.iconst (v := 2) E dX3_planTriangle_46 (by decide) ?_
    refine G.iload_n E dX3_planTriangle_47 0 rfl rfl ?_
    refine G.callVv (n := 4) (T := TX3) (N := 10) (C := RX3) (a := h 28) (q0 := 28) (As := [.int a0, .int 1, .int 2, .int v6]) E dX3_planTriangle_48 (fun _ hv => c_X3_bringAcross E.wf hv) gX3_planTriangle_X3_bringAcross rfl rfl rfl (by decide +kernel) ⟨Nat.le_of_ble_eq_true rfl, Nat.le_of_ble_eq_true rfl⟩ (wsC_at28 _ _ _) rfl rfl (Nat.le_of_ble_eq_true rfl) ⟨Nat.le_of_ble_eq_true rfl, Nat.le_of_ble_eq_true rfl⟩ (fun s9 => ?_)
    exact G.vret E dX3_planTriangle_51 rfl rfl
end TR
