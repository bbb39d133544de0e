section TR
variable {p : Program} {l : Launch} {e : Env} {s : State} {m : MethodId} {args : Array Value} {below : List Frame} {meth : Method} {c : Code} {D : va_G} {cy : Nat → ClassId} {h : Nat → Nat}

set_option maxHeartbeats 4000000 in
set_option maxRecDepth 100000 in
theorem iw_X0_treeAt_0 : ∀ w ∈ u_ws RX0 TX0 9, w ∈ wsX0_treeAt := fun _ h => List.mem_cons_of_mem _ (List.mem_append_left _ (List.mem_append_right _ h))
abbrev rm_X0_treeAt : Room := { frames := 13, cells := 0, slots := 0, locals := 324 }
noncomputable def f_X0_treeAt (N : Nat) (σ : Wd) (a0 : Int32) : Option (Int32 × Wd) :=
  bP (f_X4_lowestNode N σ) fun v1 =>
  if v1 = (-1) then (
    some ((-1), σ))
  else (
    bP (f_X7_setOf N v1) fun v2 =>
    bP (f_X0_begin N σ v2) fun s3 =>
    wI s3 5 8 a0 fun s4 =>
    gI s4 5 4 fun v5 =>
    bS (f_X0_find N 10 s4 0 v5) fun v6 s7 =>
    some (v6, s7))
set_option maxHeartbeats 4000000 in
set_option maxRecDepth 100000 in
theorem c_X0_treeAt {l : Launch} {D : va_G} {cy : Nat → ClassId} {h : Nat → Nat} {N : Nat} {σ : Wd} {a0 : Int32} {r : Int32} {σ1 : Wd} (hW : WF (wsC cy h) (adC h)) (hr : f_X0_treeAt N σ a0 = some (r, σ1)) : Con l D cy (wsC cy h) (adC h) yX0_treeAt wsX0_treeAt rm_X0_treeAt 0 0 [.ref (h 5), .int a0] (some (.int r)) σ σ1 := by
  refine Con.of (ρ := Int32 × Wd) (lv0 := [(0, .ref (h 5)), (1, .int a0)]) (σ := σ) (fun r : Int32 × Wd => some (.int r.1)) (fun r => r.2) (by decide) rfl rfl (Nat.le_of_ble_eq_true rfl) rfl hW hr (fun p e s m args below meth c E => ?_)
  unfold f_X0_treeAt
  refine G.aload_n E dX0_treeAt_0 0 rfl rfl ?_
  refine G.getR (T := TX0) (N := 9) (C := RX0) (q0 := 5) (i := 0) E dX0_treeAt_1 iw_X0_treeAt_0 (wsC_at5 _ _ _) rfl (by decide) rfl (List.mem_of_getElem? (i := 1) rfl) ?_
  refine G.callVi (n := 0) (T := TX4) (N := 8) (C := RX4) (a := h 1) (q0 := 1) (As := []) E dX0_treeAt_4 (fun _ hv => c_X4_lowestNode E.wf hv) gX0_treeAt_X4_lowestNode rfl rfl rfl (by decide +kernel) ⟨Nat.le_of_ble_eq_true rfl, Nat.le_of_ble_eq_true rfl⟩ (wsC_at1 _ _ _) rfl rfl (Nat.le_of_ble_eq_true rfl) ⟨Nat.le_of_ble_eq_true rfl, Nat.le_of_ble_eq_true rfl⟩ (fun v1 => ?_)
  refine G.istore_n (lv' := [(2, .int v1), (0, .ref (h 5)), (1, .int a0)]) E dX0_treeAt_7 rfl (by decide) rfl ?_
  refine G.iload_n E dX0_treeAt_8 0 rfl rfl ?_
  refine G.iconst (v := (-1)) E dX0_treeAt_9 (by decide) ?_
  refine G.icmp_ne (tgt := 15) E dX0_treeAt_10 (by decide) ?_ ?_
  · refine G.iconst (v := (-1)) E dX0_treeAt_13 (by decide) ?_
    exact G.iret E dX0_treeAt_14 rfl rfl
  · refine G.aload_n E dX0_treeAt_15 1 rfl rfl ?_
    refine G.iload_n E dX0_treeAt_16 0 rfl rfl ?_
    refine G.callNi (n := 1) (As := [.int v1]) E dX0_treeAt_17 (fun _ hv => c_X7_setOf E.wf hv) gX0_treeAt_X7_setOf_n52 (List.mem_of_getElem? (i := 1) rfl) (List.mem_of_getElem? (i := 15) rfl) (List.mem_of_getElem? (i := 17) rfl) rfl rfl rfl (by decide +kernel) ⟨Nat.le_of_ble_eq_true rfl, Nat.le_of_ble_eq_true rfl⟩ rfl (Nat.le_of_ble_eq_true rfl) ⟨Nat.le_of_ble_eq_true rfl, Nat.le_of_ble_eq_true rfl⟩ (fun v2 => ?_)
    refine G.callVv (n := 1) (T := TX0) (N := 9) (C := RX0) (a := h 5) (q0 := 5) (As := [.int v2]) E dX0_treeAt_20 (fun _ hv => c_X0_begin E.wf hv) gX0_treeAt_X0_begin rfl rfl rfl (by decide +kernel) ⟨Nat.le_of_ble_eq_true rfl, Nat.le_of_ble_eq_true rfl⟩ (wsC_at5 _ _ _) rfl rfl (Nat.le_of_ble_eq_true rfl) ⟨Nat.le_of_ble_eq_true rfl, Nat.le_of_ble_eq_true rfl⟩ (fun s3 => ?_)
    refine G.aload_n E dX0_treeAt_23 1 rfl rfl ?_
    refine G.iload_n E dX0_treeAt_24 2 rfl rfl ?_
    refine G.putI (T := TX0) (N := 9) (C := RX0) (q0 := 5) (i := 8) (ty := .int) E dX0_treeAt_25 iw_X0_treeAt_0 tyX0 tyX0_ok nmX0 (wsC_at5 _ _ _) rfl (by decide) (List.mem_of_getElem? (i := 2) rfl) rfl (by decide +kernel) rfl rfl (Nat.le_of_ble_eq_true rfl) (wsC_set5_8 _ _ _ _) (fun s4 => ?_)
    refine G.aload_n E dX0_treeAt_28 1 rfl rfl ?_
    refine G.iconst (v := 0) E dX0_treeAt_29 (by decide) ?_
    refine G.aload_n E dX0_treeAt_30 1 rfl rfl ?_
    refine G.getI (T := TX0) (N := 9) (C := RX0) (q0 := 5) (i := 4) E dX0_treeAt_31 iw_X0_treeAt_0 (wsC_at5 _ _ _) rfl (by decide) rfl (List.mem_of_getElem? (i := 3) rfl) (fun v5 => ?_)
    refine G.callSis (n := 3) (As := [.ref (h 5), .int 0, .int v5]) E dX0_treeAt_34 (fun _ _ hv => c_X0_find E.wf hv) gX0_treeAt_X0_find rfl rfl rfl (by decide +kernel) ⟨Nat.le_of_ble_eq_true rfl, Nat.le_of_ble_eq_true rfl⟩ rfl (Nat.le_of_ble_eq_true rfl) ⟨Nat.le_of_ble_eq_true rfl, Nat.le_of_ble_eq_true rfl⟩ (fun v6 s7 => ?_)
    exact G.iret E dX0_treeAt_37 rfl rfl
set_option maxHeartbeats 4000000 in
set_option maxRecDepth 100000 in
theorem iw_X1_begin_1 : ∀ w ∈ u_ws RX1 TX1 3, w ∈ wsX1_begin := fun _ h => List.mem_cons_of_mem _ (List.mem_append_right _ h)
abbrev rm_X1_begin : Room := { frames := 0, cells := 0, slots := 0, locals := 0 }
noncomputable def f_X1_begin (N : Nat) (σ : Wd) (a0 : Int32) : Option (Wd) :=
  wI σ 40 0 a0 fun s1 =>
  some s1
set_option maxHeartbeats 4000000 in
set_option maxRecDepth 100000 in
theorem c_X1_begin {l : Launch} {D : va_G} {cy : Nat → ClassId} {h : Nat → Nat} {N : Nat} {σ : Wd} {a0 : Int32} {σ1 : Wd} (hW : WF (wsC cy h) (adC h)) (hr : f_X1_begin N σ a0 = some σ1) : Con l D cy (wsC cy h) (adC h) yX1_begin wsX1_begin rm_X1_begin 0 0 [.ref (h 40), .int a0] (none) σ σ1 := by
  refine Con.of (ρ := Wd) (lv0 := [(0, .ref (h 40)), (1, .int a0)]) (σ := σ) (fun _ : Wd => none) (fun r => r) (by decide) rfl rfl (Nat.le_of_ble_eq_true rfl) rfl hW hr (fun p e s m args below meth c E => ?_)
  unfold f_X1_begin
  refine G.aload_n E dX1_begin_0 0 rfl rfl ?_
  refine G.iload_n E dX1_begin_1 1 rfl rfl ?_
  refine G.putI (T := TX1) (N := 3) (C := RX1) (q0 := 40) (i := 0) (ty := .int) E dX1_begin_2 iw_X1_begin_1 tyX1 tyX1_ok nmX1 (wsC_at40 _ _ _) rfl (by decide) (List.mem_of_getElem? (i := 1) rfl) rfl (by decide +kernel) rfl rfl (Nat.le_of_ble_eq_true rfl) (wsC_set40_0 _ _ _ _) (fun s1 => ?_)
  exact G.vret E dX1_begin_5 rfl rfl
abbrev rm_X1_isPair : Room := { frames := 0, cells := 0, slots := 0, locals := 0 }
noncomputable def f_X1_isPair (N : Nat) (a0 : Int32) (a1 : Int32) : Option (Int32) :=
  if a0 < 0 then (
    some 0)
  else (
    if 7 ≤ a0 then (
      some 0)
    else (
      if a1 < 0 then (
        some 0)
      else (
        if 7 ≤ a1 then (
          some 0)
        else (
          some 1))))
set_option maxHeartbeats 4000000 in
set_option maxRecDepth 100000 in
theorem c_X1_isPair {l : Launch} {D : va_G} {cy : Nat → ClassId} {h : Nat → Nat} {N : Nat} {σ : Wd} {a0 : Int32} {a1 : Int32} {r : Int32} (hW : WF (wsC cy h) (adC h)) (hr : f_X1_isPair N a0 a1 = some r) : Con l D cy (wsC cy h) (adC h) yX1_isPair wsX1_isPair rm_X1_isPair 0 0 [.int a0, .int a1] (some (.int r)) σ σ := by
  refine Con.of (ρ := Int32) (lv0 := [(0, .int a0), (1, .int a1)]) (σ := σ) (fun r : Int32 => some (.int r)) (fun _ => σ) (by decide) rfl rfl (Nat.le_of_ble_eq_true rfl) rfl hW hr (fun p e s m args below meth c E => ?_)
  unfold f_X1_isPair
  refine G.iload_n E dX1_isPair_0 0 rfl rfl ?_
  refine G.if_lt (tgt := 24) E dX1_isPair_1 (by decide) ?_ ?_
  · refine G.iconst (v := 0) E dX1_isPair_24 (by decide) ?_
    exact G.zretc E dX1_isPair_25 rfl rfl rfl
  · refine G.iload_n E dX1_isPair_4 0 rfl rfl ?_
    refine G.bipush (v := 7) E dX1_isPair_5 (by decide) ?_
    refine G.icmp_ge (tgt := 24) E dX1_isPair_7 (by decide) ?_ ?_
    · refine G.iconst (v := 0) E dX1_isPair_24 (by decide) ?_
      exact G.zretc E dX1_isPair_25 rfl rfl rfl
    · refine G.iload_n E dX1_isPair_10 1 rfl rfl ?_
      refine G.if_lt (tgt := 24) E dX1_isPair_11 (by decide) ?_ ?_
      · refine G.iconst (v := 0) E dX1_isPair_24 (by decide) ?_
        exact G.zretc E dX1_isPair_25 rfl rfl rfl
      · refine G.iload_n E dX1_isPair_14 1 rfl rfl ?_
        refine G.bipush (v := 7) E dX1_isPair_15 (by decide) ?_
        refine G.icmp_ge (tgt := 24) E dX1_isPair_17 (by decide) ?_ ?_
        · refine G.iconst (v := 0) E dX1_isPair_24 (by decide) ?_
          exact G.zretc E dX1_isPair_25 rfl rfl rfl
        · refine G.iconst (v := 1) E dX1_isPair_20 (by decide) ?_
          refine G.goto (tgt := 25) E dX1_isPair_21 (by decide) ?_
          exact G.zretc E dX1_isPair_25 rfl rfl rfl
set_option maxHeartbeats 4000000 in
set_option maxRecDepth 100000 in
theorem iw_X1_hasPair_1 : ∀ w ∈ u_ws RX1 TX1 3, w ∈ wsX1_hasPair := fun _ h => List.mem_cons_of_mem _ (List.mem_append_right _ h)
abbrev rm_X1_hasPair : Room := { frames := 1, cells := 0, slots := 0, locals := 21 }
noncomputable def f_X1_hasPair (N : Nat) (σ : Wd) (a0 : Int32) (a1 : Int32) : Option (Int32) :=
  bP (f_X1_isPair N a0 a1) fun v1 =>
  if v1 = 0 then (
    some 0)
  else (
    gI σ 40 0 fun v2 =>
    bP (f_X7_isIn N v2 a0) fun v3 =>
    if v3 = 0 then (
      some 0)
    else (
      gI σ 40 0 fun v4 =>
      bP (f_X7_isIn N v4 a1) fun v5 =>
      if v5 = 0 then (
        some 0)
      else (
        some 1)))
set_option maxHeartbeats 4000000 in
set_option maxRecDepth 100000 in
theorem c_X1_hasPair {l : Launch} {D : va_G} {cy : Nat → ClassId} {h : Nat → Nat} {N : Nat} {σ : Wd} {a0 : Int32} {a1 : Int32} {r : Int32} (hW : WF (wsC cy h) (adC h)) (hr : f_X1_hasPair N σ a0 a1 = some r) : Con l D cy (wsC cy h) (adC h) yX1_hasPair wsX1_hasPair rm_X1_hasPair 0 0 [.ref (h 40), .int a0, .int a1] (some (.int r)) σ σ := by
  refine Con.of (ρ := Int32) (lv0 := [(0, .ref (h 40)), (1, .int a0), (2, .int a1)]) (σ := σ) (fun r : Int32 => some (.int r)) (fun _ => σ) (by decide) rfl rfl (Nat.le_of_ble_eq_true rfl) rfl hW hr (fun p e s m args below meth c E => ?_)
  unfold f_X1_hasPair
  refine G.iload_n E dX1_hasPair_0 1 rfl rfl ?_
  refine G.iload_n E dX1_hasPair_1 2 rfl rfl ?_
  refine G.callSi (n := 2) (As := [.int a0, .int a1]) E dX1_hasPair_2 (fun _ hv => c_X1_isPair E.wf hv) gX1_hasPair_X1_isPair rfl rfl rfl (by decide +kernel) ⟨Nat.le_of_ble_eq_true rfl, Nat.le_of_ble_eq_true rfl⟩ rfl (Nat.le_of_ble_eq_true rfl) ⟨Nat.le_of_ble_eq_true rfl, Nat.le_of_ble_eq_true rfl⟩ (fun v1 => ?_)
  refine G.if_eq (tgt := 34) E dX1_hasPair_5 (by decide) ?_ ?_
  · refine G.iconst (v := 0) E dX1_hasPair_34 (by decide) ?_
    exact G.zretc E dX1_hasPair_35 rfl rfl rfl
  · refine G.aload_n E dX1_hasPair_8 0 rfl rfl ?_
    refine G.getI (T := TX1) (N := 3) (C := RX1) (q0 := 40) (i := 0) E dX1_hasPair_9 iw_X1_hasPair_1 (wsC_at40 _ _ _) rfl (by decide) rfl (List.mem_of_getElem? (i := 1) rfl) (fun v2 => ?_)
    refine G.iload_n E dX1_hasPair_12 1 rfl rfl ?_
    refine G.callNi (n := 2) (As := [.int v2, .int a0]) E dX1_hasPair_13 (fun _ hv => c_X7_isIn E.wf hv) gX1_hasPair_X7_isIn_n27 (List.mem_of_getElem? (i := 2) rfl) (List.mem_of_getElem? (i := 7) rfl) (List.mem_of_getElem? (i := 6) rfl) rfl rfl rfl (by decide +kernel) ⟨Nat.le_of_ble_eq_true rfl, Nat.le_of_ble_eq_true rfl⟩ rfl (Nat.le_of_ble_eq_true rfl) ⟨Nat.le_of_ble_eq_true rfl, Nat.le_of_ble_eq_true rfl⟩ (fun v3 => ?_)
    refine G.if_eq (tgt := 34) E dX1_hasPair_16 (by decide) ?_ ?_
    · refine G.iconst (v := 0) E dX1_hasPair_34 (by decide) ?_
      exact G.zretc E dX1_hasPair_35 rfl rfl rfl
    · refine G.aload_n E dX1_hasPair_19 0 rfl rfl ?_
      refine G.getI (T := TX1) (N := 3) (C := RX1) (q0 := 40) (i := 0) E dX1_hasPair_20 iw_X1_hasPair_1 (wsC_at40 _ _ _) rfl (by decide) rfl (List.mem_of_getElem? (i := 1) rfl) (fun v4 => ?_)
      refine G.iload_n E dX1_hasPair_23 2 rfl rfl ?_
      refine G.callNi (n := 2) (As := [.int v4, .int a1]) E dX1_hasPair_24 (fun _ hv => c_X7_isIn E.wf hv) gX1_hasPair_X7_isIn_n27 (List.mem_of_getElem? (i := 2) rfl) (List.mem_of_getElem? (i := 7) rfl) (List.mem_of_getElem? (i := 6) rfl) rfl rfl rfl (by decide +kernel) ⟨Nat.le_of_ble_eq_true rfl, Nat.le_of_ble_eq_true rfl⟩ rfl (Nat.le_of_ble_eq_true rfl) ⟨Nat.le_of_ble_eq_true rfl, Nat.le_of_ble_eq_true rfl⟩ (fun v5 => ?_)
      refine G.if_eq (tgt := 34) E dX1_hasPair_27 (by decide) ?_ ?_
      · refine G.iconst (v := 0) E dX1_hasPair_34 (by decide) ?_
        exact G.zretc E dX1_hasPair_35 rfl rfl rfl
      · refine G.iconst (v := 1) E dX1_hasPair_30 (by decide) ?_
        refine G.goto (tgt := 35) E dX1_hasPair_31 (by decide) ?_
        exact G.zretc E dX1_hasPair_35 rfl rfl rfl
set_option maxHeartbeats 4000000 in
set_option maxRecDepth 100000 in
theorem iw_X1_isKept_1 : ∀ w ∈ u_ws RX1 TX1 3, w ∈ wsX1_isKept := fun _ h => List.mem_cons_of_mem _ (List.mem_append_right _ h)
abbrev rm_X1_isKept : Room := { frames := 1, cells := 0, slots := 0, locals := 21 }
noncomputable def f_X1_isKept (N : Nat) (σ : Wd) (a0 : Int32) (a1 : Int32) (a2 : Int64) (a3 : Int64) : Option (Int32) :=
  bP (f_X1_isPair N a0 a1) fun v1 =>
  if v1 = 0 then (
    some 0)
  else (
    rR 42 7 a0 fun z2_ =>
    rL σ z2_ 7 a1 fun v3 =>
    if (lg_cmp v3 a2) = 0 then (
      rR 50 7 a0 fun z4_ =>
      rL σ z4_ 7 a1 fun v5 =>
      if (lg_cmp v5 a3) = 0 then (
        some 1)
      else (
        some 0))
    else (
      some 0))
set_option maxHeartbeats 4000000 in
set_option maxRecDepth 100000 in
theorem c_X1_isKept {l : Launch} {D : va_G} {cy : Nat → ClassId} {h : Nat → Nat} {N : Nat} {σ : Wd} {a0 : Int32} {a1 : Int32} {a2 : Int64} {a3 : Int64} {r : Int32} (hW : WF (wsC cy h) (adC h)) (hr : f_X1_isKept N σ a0 a1 a2 a3 = some r) : Con l D cy (wsC cy h) (adC h) yX1_isKept wsX1_isKept rm_X1_isKept 0 0 [.ref (h 40), .int a0, .int a1, .long a2, .long a3] (some (.int r)) σ σ := by
  refine Con.of (ρ := Int32) (lv0 := [(0, .ref (h 40)), (1, .int a0), (2, .int a1), (3, .long a2), (5, .long a3)]) (σ := σ) (fun r : Int32 => some (.int r)) (fun _ => σ) (by decide) rfl rfl (Nat.le_of_ble_eq_true rfl) rfl hW hr (fun p e s m args below meth c E => ?_)
  unfold f_X1_isKept
  refine G.iload_n E dX1_isKept_0 1 rfl rfl ?_
  refine G.iload_n E dX1_isKept_1 2 rfl rfl ?_
  refine G.callSi (n := 2) (As := [.int a0, .int a1]) E dX1_isKept_2 (fun _ hv => c_X1_isPair E.wf hv) gX1_isKept_X1_isPair rfl rfl rfl (by decide +kernel) ⟨Nat.le_of_ble_eq_true rfl, Nat.le_of_ble_eq_true rfl⟩ rfl (Nat.le_of_ble_eq_true rfl) ⟨Nat.le_of_ble_eq_true rfl, Nat.le_of_ble_eq_true rfl⟩ (fun v1 => ?_)
  refine G.if_eq (tgt := 39) E dX1_isKept_5 (by decide) ?_ ?_
  · refine G.iconst (v := 0) E dX1_isKept_39 (by decide) ?_
    exact G.zretc E dX1_isKept_40 rfl rfl rfl
  · refine G.aload_n E dX1_isKept_8 0 rfl rfl ?_
    refine G.getR (T := TX1) (N := 3) (C := RX1) (q0 := 40) (i := 1) E dX1_isKept_9 iw_X1_isKept_1 (wsC_at40 _ _ _) rfl (by decide) rfl (List.mem_of_getElem? (i := 1) rfl) ?_
    refine G.iload_n E dX1_isKept_12 1 rfl rfl ?_
    refine G.aald (q0 := 41) (t0 := 3) (h0 := h) E dX1_isKept_13 (wsC_at41 _ _ _) rfl rfl (fun z2 hz2 => ?_)
    refine G.iload_n E dX1_isKept_14 2 rfl rfl ?_
    refine G.lald (q0 := (42 + z2)) E dX1_isKept_15 (wsC_row42 _ _ _ z2 hz2) (fun v3 => ?_)
    refine G.lload_n E dX1_isKept_16 3 rfl rfl ?_
    refine G.lcmp E dX1_isKept_17 ?_
    refine G.if_ne (tgt := 39) E dX1_isKept_18 (by decide) ?_ ?_
    · refine G.aload_n E dX1_isKept_21 0 rfl rfl ?_
      refine G.getR (T := TX1) (N := 3) (C := RX1) (q0 := 40) (i := 2) E dX1_isKept_22 iw_X1_isKept_1 (wsC_at40 _ _ _) rfl (by decide) rfl (List.mem_of_getElem? (i := 2) rfl) ?_
      refine G.iload_n E dX1_isKept_25 1 rfl rfl ?_
      refine G.aald (q0 := 49) (t0 := 3) (h0 := h) E dX1_isKept_26 (wsC_at49 _ _ _) rfl rfl (fun z4 hz4 => ?_)
      refine G.iload_n E dX1_isKept_27 2 rfl rfl ?_
      refine G.lald (q0 := (50 + z4)) E dX1_isKept_28 (wsC_row50 _ _ _ z4 hz4) (fun v5 => ?_)
      refine G.lload E dX1_isKept_29 4 rfl ?_
      refine G.lcmp E dX1_isKept_31 ?_
      refine G.if_ne (tgt := 39) E dX1_isKept_32 (by decide) ?_ ?_
      · refine G.iconst (v := 1) E dX1_isKept_35 (by decide) ?_
        refine G.goto (tgt := 40) E dX1_isKept_36 (by decide) ?_
        exact G.zretc E dX1_isKept_40 rfl rfl rfl
      · refine G.iconst (v := 0) E dX1_isKept_39 (by decide) ?_
        exact G.zretc E dX1_isKept_40 rfl rfl rfl
    · refine G.iconst (v := 0) E dX1_isKept_39 (by decide) ?_
      exact G.zretc E dX1_isKept_40 rfl rfl rfl
set_option maxHeartbeats 4000000 in
set_option maxRecDepth 100000 in
theorem iw_X1_keep_1 : ∀ w ∈ u_ws RX1 TX1 3, w ∈ wsX1_keep := fun _ h => List.mem_cons_of_mem _ (List.mem_append_right _ h)
abbrev rm_X1_keep : Room := { frames := 1, cells := 0, slots := 0, locals := 21 }
noncomputable def f_X1_keep (N : Nat) (σ : Wd) (a0 : Int32) (a1 : Int32) (a2 : Int64) (a3 : Int64) : Option (Wd) :=
  bP (f_X1_isPair N a0 a1) fun v1 =>
  if v1 = 0 then (
    some σ)
  else (
    rR 42 7 a0 fun z2_ =>
    aL σ z2_ 7 a1 a2 fun s3 =>
    rR 50 7 a0 fun z4_ =>
    aL s3 z4_ 7 a1 a3 fun s5 =>
    some s5)
set_option maxHeartbeats 4000000 in
set_option maxRecDepth 100000 in
theorem c_X1_keep {l : Launch} {D : va_G} {cy : Nat → ClassId} {h : Nat → Nat} {N : Nat} {σ : Wd} {a0 : Int32} {a1 : Int32} {a2 : Int64} {a3 : Int64} {σ1 : Wd} (hW : WF (wsC cy h) (adC h)) (hr : f_X1_keep N σ a0 a1 a2 a3 = some σ1) : Con l D cy (wsC cy h) (adC h) yX1_keep wsX1_keep rm_X1_keep 0 0 [.ref (h 40), .int a0, .int a1, .long a2, .long a3] (none) σ σ1 := by
  refine Con.of (ρ := Wd) (lv0 := [(0, .ref (h 40)), (1, .int a0), (2, .int a1), (3, .long a2), (5, .long a3)]) (σ := σ) (fun _ : Wd => none) (fun r => r) (by decide) rfl rfl (Nat.le_of_ble_eq_true rfl) rfl hW hr (fun p e s m args below meth c E => ?_)
  unfold f_X1_keep
  refine G.iload_n E dX1_keep_0 1 rfl rfl ?_
  refine G.iload_n E dX1_keep_1 2 rfl rfl ?_
  refine G.callSi (n := 2) (As := [.int a0, .int a1]) E dX1_keep_2 (fun _ hv => c_X1_isPair E.wf hv) gX1_keep_X1_isPair rfl rfl rfl (by decide +kernel) ⟨Nat.le_of_ble_eq_true rfl, Nat.le_of_ble_eq_true rfl⟩ rfl (Nat.le_of_ble_eq_true rfl) ⟨Nat.le_of_ble_eq_true rfl, Nat.le_of_ble_eq_true rfl⟩ (fun v1 => ?_)
  refine G.if_eq (tgt := 27) E dX1_keep_5 (by decide) ?_ ?_
  · exact G.vret E dX1_keep_27 rfl rfl
  · refine G.aload_n E dX1_keep_8 0 rfl rfl ?_
    refine G.getR (T := TX1) (N := 3) (C := RX1) (q0 := 40) (i := 1) E dX1_keep_9 iw_X1_keep_1 (wsC_at40 _ _ _) rfl (by decide) rfl (List.mem_of_getElem? (i := 1) rfl) ?_
    refine G.iload_n E dX1_keep_12 1 rfl rfl ?_
    refine G.aald (q0 := 41) (t0 := 3) (h0 := h) E dX1_keep_13 (wsC_at41 _ _ _) rfl rfl (fun z2 hz2 => ?_)
    refine G.iload_n E dX1_keep_14 2 rfl rfl ?_
    refine G.lload_n E dX1_keep_15 3 rfl rfl ?_
    refine G.last (q0 := (42 + z2)) E dX1_keep_16 (wsC_row42 _ _ _ z2 hz2) (fun j => wsC_rset42 _ _ _ _ j z2 hz2) (fun s3 => ?_)
    refine G.aload_n E dX1_keep_17 0 rfl rfl ?_
    refine G.getR (T := TX1) (N := 3) (C := RX1) (q0 := 40) (i := 2) E dX1_keep_18 iw_X1_keep_1 (wsC_at40 _ _ _) rfl (by decide) rfl (List.mem_of_getElem? (i := 2) rfl) ?_
    refine G.iload_n E dX1_keep_21 1 rfl rfl ?_
    refine G.aald (q0 := 49) (t0 := 3) (h0 := h) E dX1_keep_22 (wsC_at49 _ _ _) rfl rfl (fun z4 hz4 => ?_)
    refine G.iload_n E dX1_keep_23 2 rfl rfl ?_
    refine G.lload E dX1_keep_24 4 rfl ?_
    refine G.last (q0 := (50 + z4)) E dX1_keep_26 (wsC_row50 _ _ _ z4 hz4) (fun j => wsC_rset50 _ _ _ _ j z4 hz4) (fun s5 => ?_)
    exact G.vret E dX1_keep_27 rfl rfl
set_option maxHeartbeats 4000000 in
set_option maxRecDepth 100000 in
theorem iw_X2_add_2 : ∀ w ∈ u_ws RX2 TX2 3, w ∈ wsX2_add := fun _ h => List.mem_cons_of_mem _ (List.mem_append_right _ h)
abbrev rm_X2_add : Room := { frames := 0, cells := 0, slots := 0, locals := 0 }
noncomputable def f_X2_add (N : Nat) (σ : Wd) (a0 : Int32) (a1 : Int32) (a2 : Int32) : Option (Wd) :=
  if a0 < 0 then (
    some σ)
  else (
    if 7 ≤ a0 then (
      some σ)
    else (
      if a1 < 0 then (
        some σ)
      else (
        if 7 ≤ a1 then (
          some σ)
        else (
          rR 19 7 a0 fun z1_ =>
          rL σ z1_ 7 a1 fun v2 =>
          aL σ z1_ 7 a1 (v2 + (Int32.toInt64 a2)) fun s3 =>
          some s3))))
set_option maxHeartbeats 4000000 in
set_option maxRecDepth 100000 in
theorem c_X2_add {l : Launch} {D : va_G} {cy : Nat → ClassId} {h : Nat → Nat} {N : Nat} {σ : Wd} {a0 : Int32} {a1 : Int32} {a2 : Int32} {σ1 : Wd} (hW : WF (wsC cy h) (adC h)) (hr : f_X2_add N σ a0 a1 a2 = some σ1) : Con l D cy (wsC cy h) (adC h) yX2_add wsX2_add rm_X2_add 0 0 [.ref (h 16), .int a0, .int a1, .int a2] (none) σ σ1 := by
  refine Con.of (ρ := Wd) (lv0 := [(0, .ref (h 16)), (1, .int a0), (2, .int a1), (3, .int a2)]) (σ := σ) (fun _ : Wd => none) (fun r => r) (by decide) rfl rfl (Nat.le_of_ble_eq_true rfl) rfl hW hr (fun p e s m args below meth c E => ?_)
  unfold f_X2_add
  refine G.iload_n E dX2_add_0 1 rfl rfl ?_
  refine G.if_lt (tgt := 33) E dX2_add_1 (by decide) ?_ ?_
  · exact G.vret E dX2_add_33 rfl rfl
  · refine G.iload_n E dX2_add_4 1 rfl rfl ?_
    refine G.bipush (v := 7) E dX2_add_5 (by decide) ?_
    refine G.icmp_ge (tgt := 33) E dX2_add_7 (by decide) ?_ ?_
    · exact G.vret E dX2_add_33 rfl rfl
    · refine G.iload_n E dX2_add_10 2 rfl rfl ?_
      refine G.if_lt (tgt := 33) E dX2_add_11 (by decide) ?_ ?_
      · exact G.vret E dX2_add_33 rfl rfl
      · refine G.iload_n E dX2_add_14 2 rfl rfl ?_
        refine G.bipush (v := 7) E dX2_add_15 (by decide) ?_
        refine G.icmp_ge (tgt := 33) E dX2_add_17 (by decide) ?_ ?_
        · exact G.vret E dX2_add_33 rfl rfl
        · refine G.aload_n E dX2_add_20 0 rfl rfl ?_
          refine G.getR (T := TX2) (N := 3) (C := RX2) (q0 := 16) (i := 2) E dX2_add_21 iw_X2_add_2 (wsC_at16 _ _ _) rfl (by decide) rfl (List.mem_of_getElem? (i := 1) rfl) ?_
          refine G.iload_n E dX2_add_24 1 rfl rfl ?_
          refine G.aald (q0 := 18) (t0 := 3) (h0 := h) E dX2_add_25 (wsC_at18 _ _ _) rfl rfl (fun z1 hz1 => ?_)
          refine G.iload_n E dX2_add_26 2 rfl rfl ?_
          refine G.dup2 E dX2_add_27 rfl rfl ?_
          refine G.lald (q0 := (19 + z1)) E dX2_add_28 (wsC_row19 _ _ _ z1 hz1) (fun v2 => ?_)
          refine G.iload_n E dX2_add_29 3 rfl rfl ?_
          refine G.i2l E dX2_add_30 ?_
          refine G.ladd E dX2_add_31 ?_
          refine G.last (q0 := (19 + z1)) E dX2_add_32 (wsC_row19 _ _ _ z1 hz1) (fun j => wsC_rset19 _ _ _ _ j z1 hz1) (fun s3 => ?_)
          exact G.vret E dX2_add_33 rfl rfl
set_option maxHeartbeats 4000000 in
set_option maxRecDepth 100000 in
theorem iw_X2_clearRows_2 : ∀ w ∈ u_ws RX2 TX2 3, w ∈ wsX2_clearRows := fun _ h => List.mem_cons_of_mem _ (List.mem_append_right _ h)
abbrev rm_X2_clearRows : Room := { frames := 0, cells := 0, slots := 0, locals := 0 }
noncomputable def fl_X2_clearRows_10 {ρ : Type} (N : Nat) (x1 : Int32) (K : Wd → Option ρ) : Nat → Int32 → Wd → Option ρ
  | 0, _, _ => none
  | n + 1, x2, s0 =>
    if 7 ≤ x2 then (
      K s0)
    else (
      rR 19 7 x1 fun z1_ =>
      aL s0 z1_ 7 x2 0 fun s2 =>
      fl_X2_clearRows_10 N x1 K n (x2 + 1) s2)
set_option maxHeartbeats 4000000 in
set_option maxRecDepth 100000 in
theorem gl_X2_clearRows_10 {ρ : Type} {Q : ρ → State → Prop} {N : Nat} {x1 : Int32} {K : Wd → Option ρ} (E : EV p s m args meth c cX2_clearRows 3 RX2 wsX2_clearRows none D cy (wsC cy h) (adC h)) (hK : ∀ (s' : Wd), G p l e (headSpec wsX2_clearRows rm_X2_clearRows).room s m args below meth c 3 0 0 D (wsC cy h) (adC h) Q 31 [(0, .ref (h 16)), (1, .int x1)] [] s' (K s')) :
  ∀ (n : Nat) (x2 : Int32) (s0 : Wd), G p l e (headSpec wsX2_clearRows rm_X2_clearRows).room s m args below meth c 3 0 0 D (wsC cy h) (adC h) Q 10 [(0, .ref (h 16)), (1, .int x1), (2, .int x2)] [] s0 (fl_X2_clearRows_10 N x1 K n x2 s0) := by
  intro n
  induction n with
  | zero => intros; exact G.no
  | succ n ih =>
    intro x2 s0
    rw [fl_X2_clearRows_10]
    refine G.iload_n E dX2_clearRows_10 2 rfl rfl ?_
    refine G.bipush (v := 7) E dX2_clearRows_11 (by decide) ?_
    refine G.icmp_ge (tgt := 31) E dX2_clearRows_13 (by decide) ?_ ?_
    · refine G.loc [0, 1] rfl ?_
      exact hK s0
    · refine G.aload_n E dX2_clearRows_16 0 rfl rfl ?_
      refine G.getR (T := TX2) (N := 3) (C := RX2) (q0 := 16) (i := 2) E dX2_clearRows_17 iw_X2_clearRows_2 (wsC_at16 _ _ _) rfl (by decide) rfl (List.mem_of_getElem? (i := 1) rfl) ?_
      refine G.iload_n E dX2_clearRows_20 1 rfl rfl ?_
      refine G.aald (q0 := 18) (t0 := 3) (h0 := h) E dX2_clearRows_21 (wsC_at18 _ _ _) rfl rfl (fun z1 hz1 => ?_)
      refine G.iload_n E dX2_clearRows_22 2 rfl rfl ?_
      refine G.lconst (v := 0) E dX2_clearRows_23 (by decide) ?_
      refine G.last (q0 := (19 + z1)) E dX2_clearRows_24 (wsC_row19 _ _ _ z1 hz1) (fun j => wsC_rset19 _ _ _ _ j z1 hz1) (fun s2 => ?_)
      refine G.iinc (v := x2 + 1) (lv' := [(2, .int (x2 + 1)), (0, .ref (h 16)), (1, .int x1)]) E dX2_clearRows_25 2 rfl rfl (by decide) rfl ?_
      refine G.goto (tgt := 10) E dX2_clearRows_28 (by decide) ?_
      refine G.loc [1, 2, 0] rfl ?_
      exact ih (x2 + 1) s2
noncomputable def fl_X2_clearRows_2 {ρ : Type} (N : Nat) (K : Wd → Option ρ) : Nat → Int32 → Wd → Option ρ
  | 0, _, _ => none
  | n + 1, x1, s0 =>
    if 7 ≤ x1 then (
      K s0)
    else (
      fl_X2_clearRows_10 N x1 (fun s3 =>
        fl_X2_clearRows_2 N K n (x1 + 1) s3) N 0 s0)
set_option maxHeartbeats 4000000 in
set_option maxRecDepth 100000 in
theorem gl_X2_clearRows_2 {ρ : Type} {Q : ρ → State → Prop} {N : Nat} {K : Wd → Option ρ} (E : EV p s m args meth c cX2_clearRows 3 RX2 wsX2_clearRows none D cy (wsC cy h) (adC h)) (hK : ∀ (s' : Wd), G p l e (headSpec wsX2_clearRows rm_X2_clearRows).room s m args below meth c 3 0 0 D (wsC cy h) (adC h) Q 37 [] [] s' (K s')) :
  ∀ (n : Nat) (x1 : Int32) (s0 : Wd), G p l e (headSpec wsX2_clearRows rm_X2_clearRows).room s m args below meth c 3 0 0 D (wsC cy h) (adC h) Q 2 [(0, .ref (h 16)), (1, .int x1)] [] s0 (fl_X2_clearRows_2 N K n x1 s0) := by
  intro n
  induction n with
  | zero => intros; exact G.no
  | succ n ih =>
    intro x1 s0
    rw [fl_X2_clearRows_2]
    refine G.iload_n E dX2_clearRows_2 1 rfl rfl ?_
    refine G.bipush (v := 7) E dX2_clearRows_3 (by decide) ?_
    refine G.icmp_ge (tgt := 37) E dX2_clearRows_5 (by decide) ?_ ?_
    · refine G.loc [] rfl ?_
      exact hK s0
    · refine G.iconst (v := 0) E dX2_clearRows_8 (by decide) ?_
      refine G.istore_n (lv' := [(2, .int 0), (0, .ref (h 16)), (1, .int x1)]) E dX2_clearRows_9 rfl (by decide) rfl ?_
      refine G.loc [1, 2, 0] rfl ?_
      refine gl_X2_clearRows_10 E (fun s3 => ?_) N _ _
      refine G.iinc (v := x1 + 1) (lv' := [(1, .int (x1 + 1)), (0, .ref (h 16))]) E dX2_clearRows_31 1 rfl rfl (by decide) rfl ?_
      refine G.goto (tgt := 2) E dX2_clearRows_34 (by decide) ?_
      refine G.loc [1, 0] rfl ?_
      exact ih (x1 + 1) s3
noncomputable def f_X2_clearRows (N : Nat) (σ : Wd) : Option (Wd) :=
  fl_X2_clearRows_2 N (fun s4 =>
    some s4) N 0 σ
set_option maxHeartbeats 4000000 in
set_option maxRecDepth 100000 in
theorem c_X2_clearRows {l : Launch} {D : va_G} {cy : Nat → ClassId} {h : Nat → Nat} {N : Nat} {σ : Wd} {σ1 : Wd} (hW : WF (wsC cy h) (adC h)) (hr : f_X2_clearRows N σ = some σ1) : Con l D cy (wsC cy h) (adC h) yX2_clearRows wsX2_clearRows rm_X2_clearRows 0 0 [.ref (h 16)] (none) σ σ1 := by
  refine Con.of (ρ := Wd) (lv0 := [(0, .ref (h 16))]) (σ := σ) (fun _ : Wd => none) (fun r => r) (by decide) rfl rfl (Nat.le_of_ble_eq_true rfl) rfl hW hr (fun p e s m args below meth c E => ?_)
  unfold f_X2_clearRows
  refine G.iconst (v := 0) E dX2_clearRows_0 (by decide) ?_
  refine G.istore_n (lv' := [(1, .int 0), (0, .ref (h 16))]) E dX2_clearRows_1 rfl (by decide) rfl ?_
  refine G.loc [1, 0] rfl ?_
  refine gl_X2_clearRows_2 E (fun s4 => ?_) N _ _
  exact G.vret E dX2_clearRows_37 rfl rfl
set_option maxHeartbeats 4000000 in
set_option maxRecDepth 100000 in
theorem iw_X2_numberRows_2 : ∀ w ∈ u_ws RX2 TX2 3, w ∈ wsX2_numberRows := fun _ h => List.mem_cons_of_mem _ (List.mem_append_left _ (List.mem_append_right _ h))
abbrev rm_X2_numberRows : Room := { frames := 2, cells := 0, slots := 0, locals := 42 }
noncomputable def fl_X2_numberRows_4 {ρ : Type} (N : Nat) (x1 : Int32) (K : Int32 → Wd → Option ρ) : Nat → Int32 → Int32 → Wd → Option ρ
  | 0, _, _, _ => none
  | n + 1, x2, x3, s0 =>
    if 7 ≤ x3 then (
      K x2 s0)
    else (
      aI s0 17 7 x3 (-1) fun s1 =>
      jn (fun (v2 : Int32) (s3 : Wd) => ((
        fl_X2_numberRows_4 N x1 K n v2 (x3 + 1) s3) : Option (ρ))) fun j43 =>
      if x3 = x1 then (
        j43 x2 s1)
      else (
        bP (f_X4_hasNode N s1 x3) fun v4 =>
        if v4 = 0 then (
          j43 x2 s1)
        else (
          aI s1 17 7 x3 x2 fun s5 =>
          j43 (x2 + 1) s5)))
set_option maxHeartbeats 4000000 in
set_option maxRecDepth 100000 in
theorem gl_X2_numberRows_4 {ρ : Type} {Q : ρ → State → Prop} {N : Nat} {x1 : Int32} {K : Int32 → Wd → Option ρ} (E : EV p s m args meth c cX2_numberRows 4 RX2 wsX2_numberRows (some .int) D cy (wsC cy h) (adC h)) (hK : ∀ (x2' : Int32) (s' : Wd), G p l e (headSpec wsX2_numberRows rm_X2_numberRows).room s m args below meth c 4 0 0 D (wsC cy h) (adC h) Q 49 [(2, .int (x2'))] [] s' (K x2' s')) :
  ∀ (n : Nat) (x2 : Int32) (x3 : Int32) (s0 : Wd), G p l e (headSpec wsX2_numberRows rm_X2_numberRows).room s m args below meth c 4 0 0 D (wsC cy h) (adC h) Q 4 [(0, .ref (h 16)), (1, .int x1), (2, .int x2), (3, .int x3)] [] s0 (fl_X2_numberRows_4 N x1 K n x2 x3 s0) := by
  intro n
  induction n with
  | zero => intros; exact G.no
  | succ n ih =>
    intro x2 x3 s0
    rw [fl_X2_numberRows_4]
    refine G.iload_n E dX2_numberRows_4 3 rfl rfl ?_
    refine G.bipush (v := 7) E dX2_numberRows_5 (by decide) ?_
    refine G.icmp_ge (tgt := 49) E dX2_numberRows_7 (by decide) ?_ ?_
    · refine G.loc [2] rfl ?_
      exact hK x2 s0
    · refine G.aload_n E dX2_numberRows_10 0 rfl rfl ?_
      refine G.getR (T := TX2) (N := 3) (C := RX2) (q0 := 16) (i := 1) E dX2_numberRows_11 iw_X2_numberRows_2 (wsC_at16 _ _ _) rfl (by decide) rfl (List.mem_of_getElem? (i := 1) rfl) ?_
      refine G.iload_n E dX2_numberRows_14 3 rfl rfl ?_
      refine G.iconst (v := (-1)) E dX2_numberRows_15 (by decide) ?_
      refine G.iast (q0 := 17) E dX2_numberRows_16 (wsC_at17 _ _ _) (fun j => wsC_set17 _ _ _ _ j) (fun s1 => ?_)
      refine G.iload_n E dX2_numberRows_17 3 rfl rfl ?_
      refine G.iload_n E dX2_numberRows_18 1 rfl rfl ?_
      refine G.jn (P := fun j => ∀ (v2 : Int32) (s3 : Wd), G p l e (headSpec wsX2_numberRows rm_X2_numberRows).room s m args below meth c 4 0 0 D (wsC cy h) (adC h) Q 43 [(0, .ref (h 16)), (1, .int x1), (2, .int v2), (3, .int x3)] [] s3 (j v2 s3)) ?_ (fun j43 hj43 => ?_)
      · intro v2 s3
        refine G.iinc (v := x3 + 1) (lv' := [(3, .int (x3 + 1)), (0, .ref (h 16)), (1, .int x1), (2, .int v2)]) E dX2_numberRows_43 3 rfl rfl (by decide) rfl ?_
        refine G.goto (tgt := 4) E dX2_numberRows_46 (by decide) ?_
        refine G.loc [1, 2, 3, 0] rfl ?_
        exact ih v2 (x3 + 1) s3
      · refine G.icmp_eq (tgt := 43) E dX2_numberRows_19 (by decide) ?_ ?_
        · refine G.loc [0, 1, 2, 3] rfl ?_
          exact hj43 x2 s1
        · refine G.aload_n E dX2_numberRows_22 0 rfl rfl ?_
          refine G.getR (T := TX2) (N := 3) (C := RX2) (q0 := 16) (i := 0) E dX2_numberRows_23 iw_X2_numberRows_2 (wsC_at16 _ _ _) rfl (by decide) rfl (List.mem_of_getElem? (i := 2) rfl) ?_
          refine G.iload_n E dX2_numberRows_26 3 rfl rfl ?_
          refine G.callVi (n := 1) (T := TX4) (N := 8) (C := RX4) (a := h 1) (q0 := 1) (As := [.int x3]) E dX2_numberRows_27 (fun _ hv => c_X4_hasNode E.wf hv) gX2_numberRows_X4_hasNode rfl rfl rfl (by decide +kernel) ⟨Nat.le_of_ble_eq_true rfl, Nat.le_of_ble_eq_true rfl⟩ (wsC_at1 _ _ _) rfl rfl (Nat.le_of_ble_eq_true rfl) ⟨Nat.le_of_ble_eq_true rfl, Nat.le_of_ble_eq_true rfl⟩ (fun v4 => ?_)
          refine G.if_eq (tgt := 43) E dX2_numberRows_30 (by decide) ?_ ?_
          · refine G.loc [0, 1, 2, 3] rfl ?_
            exact hj43 x2 s1
          · refine G.aload_n E dX2_numberRows_33 0 rfl rfl ?_
            refine G.getR (T := TX2) (N := 3) (C := RX2) (q0 := 16) (i := 1) E dX2_numberRows_34 iw_X2_numberRows_2 (wsC_at16 _ _ _) rfl (by decide) rfl (List.mem_of_getElem? (i := 1) rfl) ?_
            refine G.iload_n E dX2_numberRows_37 3 rfl rfl ?_
            refine G.iload_n E dX2_numberRows_38 2 rfl rfl ?_
            refine G.iast (q0 := 17) E dX2_numberRows_39 (wsC_at17 _ _ _) (fun j => wsC_set17 _ _ _ _ j) (fun s5 => ?_)
            refine G.iinc (v := x2 + 1) (lv' := [(2, .int (x2 + 1)), (0, .ref (h 16)), (1, .int x1), (3, .int x3)]) E dX2_numberRows_40 2 rfl rfl (by decide) rfl ?_
            refine G.loc [1, 2, 0, 3] rfl ?_
            exact hj43 (x2 + 1) s5
noncomputable def f_X2_numberRows (N : Nat) (σ : Wd) (a0 : Int32) : Option (Int32 × Wd) :=
  fl_X2_numberRows_4 N a0 (fun v6 s7 =>
    some (v6, s7)) N 0 0 σ
set_option maxHeartbeats 4000000 in
set_option maxRecDepth 100000 in
theorem c_X2_numberRows {l : Launch} {D : va_G} {cy : Nat → ClassId} {h : Nat → Nat} {N : Nat} {σ : Wd} {a0 : Int32} {r : Int32} {σ1 : Wd} (hW : WF (wsC cy h) (adC h)) (hr : f_X2_numberRows N σ a0 = some (r, σ1)) : Con l D cy (wsC cy h) (adC h) yX2_numberRows wsX2_numberRows rm_X2_numberRows 0 0 [.ref (h 16), .int a0] (some (.int r)) σ σ1 := by
  refine Con.of (ρ := Int32 × Wd) (lv0 := [(0, .ref (h 16)), (1, .int a0)]) (σ := σ) (fun r : Int32 × Wd => some (.int r.1)) (fun r => r.2) (by decide) rfl rfl (Nat.le_of_ble_eq_true rfl) rfl hW hr (fun p e s m args below meth c E => ?_)
  unfold f_X2_numberRows
  refine G.iconst (v := 0) E dX2_numberRows_0 (by decide) ?_
  refine G.istore_n (lv' := [(2, .int 0), (0, .ref (h 16)), (1, .int a0)]) E dX2_numberRows_1 rfl (by decide) rfl ?_
  refine G.iconst (v := 0) E dX2_numberRows_2 (by decide) ?_
  refine G.istore_n (lv' := [(3, .int 0), (2, .int 0), (0, .ref (h 16)), (1, .int a0)]) E dX2_numberRows_3 rfl (by decide) rfl ?_
  refine G.loc [2, 3, 1, 0] rfl ?_
  refine gl_X2_numberRows_4 E (fun v6 s7 => ?_) N _ _ _
  refine G.iload_n E dX2_numberRows_49 0 rfl rfl ?_
  exact G.iret E dX2_numberRows_50 rfl rfl
set_option maxHeartbeats 4000000 in
set_option maxRecDepth 100000 in
theorem iw_X2_rowOfNode_2 : ∀ w ∈ u_ws RX2 TX2 3, w ∈ wsX2_rowOfNode := fun _ h => List.mem_cons_of_mem _ (List.mem_append_right _ h)
abbrev rm_X2_rowOfNode : Room := { frames := 0, cells := 0, slots := 0, locals := 0 }
noncomputable def f_X2_rowOfNode (N : Nat) (σ : Wd) (a0 : Int32) : Option (Int32) :=
  if a0 < 0 then (
    some (-1))
  else (
    if 7 ≤ a0 then (
      some (-1))
    else (
      rI σ 17 7 a0 fun v1 =>
      some v1))
set_option maxHeartbeats 4000000 in
set_option maxRecDepth 100000 in
theorem c_X2_rowOfNode {l : Launch} {D : va_G} {cy : Nat → ClassId} {h : Nat → Nat} {N : Nat} {σ : Wd} {a0 : Int32} {r : Int32} (hW : WF (wsC cy h) (adC h)) (hr : f_X2_rowOfNode N σ a0 = some r) : Con l D cy (wsC cy h) (adC h) yX2_rowOfNode wsX2_rowOfNode rm_X2_rowOfNode 0 0 [.ref (h 16), .int a0] (some (.int r)) σ σ := by
  refine Con.of (ρ := Int32) (lv0 := [(0, .ref (h 16)), (1, .int a0)]) (σ := σ) (fun r : Int32 => some (.int r)) (fun _ => σ) (by decide) rfl rfl (Nat.le_of_ble_eq_true rfl) rfl hW hr (fun p e s m args below meth c E => ?_)
  unfold f_X2_rowOfNode
  refine G.iload_n E dX2_rowOfNode_0 1 rfl rfl ?_
  refine G.if_lt (tgt := 19) E dX2_rowOfNode_1 (by decide) ?_ ?_
  · refine G.iconst (v := (-1)) E dX2_rowOfNode_19 (by decide) ?_
    exact G.iret E dX2_rowOfNode_20 rfl rfl
  · refine G.iload_n E dX2_rowOfNode_4 1 rfl rfl ?_
    refine G.bipush (v := 7) E dX2_rowOfNode_5 (by decide) ?_
    refine G.icmp_ge (tgt := 19) E dX2_rowOfNode_7 (by decide) ?_ ?_
    · refine G.iconst (v := (-1)) E dX2_rowOfNode_19 (by decide) ?_
      exact G.iret E dX2_rowOfNode_20 rfl rfl
    · refine G.aload_n E dX2_rowOfNode_10 0 rfl rfl ?_
      refine G.getR (T := TX2) (N := 3) (C := RX2) (q0 := 16) (i := 1) E dX2_rowOfNode_11 iw_X2_rowOfNode_2 (wsC_at16 _ _ _) rfl (by decide) rfl (List.mem_of_getElem? (i := 1) rfl) ?_
      refine G.iload_n E dX2_rowOfNode_14 1 rfl rfl ?_
      refine G.iald (q0 := 17) E dX2_rowOfNode_15 (wsC_at17 _ _ _) (fun v1 => ?_)
      refine G.goto (tgt := 20) E dX2_rowOfNode_16 (by decide) ?_
      exact G.iret E dX2_rowOfNode_20 rfl rfl
set_option maxHeartbeats 4000000 in
set_option maxRecDepth 100000 in
theorem iw_X2_enter_2 : ∀ w ∈ u_ws RX2 TX2 3, w ∈ wsX2_enter := fun _ h => List.mem_cons_of_mem _ (List.mem_append_left _ (List.mem_append_right _ h))
abbrev rm_X2_enter : Room := { frames := 1, cells := 0, slots := 0, locals := 23 }
noncomputable def f_X2_enter (N : Nat) (σ : Wd) (a0 : Int32) : Option (Wd) :=
  bP (f_X4_firstOf N σ a0) fun v1 =>
  bP (f_X2_rowOfNode N σ v1) fun v2 =>
  bP (f_X4_secondOf N σ a0) fun v3 =>
  bP (f_X2_rowOfNode N σ v3) fun v4 =>
  bP (f_X4_conductanceOf N σ a0) fun v5 =>
  bP (f_X2_add N σ v2 v2 v5) fun s6 =>
  bP (f_X2_add N s6 v4 v4 v5) fun s7 =>
  bP (f_X2_add N s7 v2 v4 (-v5)) fun s8 =>
  bP (f_X2_add N s8 v4 v2 (-v5)) fun s9 =>
  some s9
set_option maxHeartbeats 4000000 in
set_option maxRecDepth 100000 in
theorem c_X2_enter {l : Launch} {D : va_G} {cy : Nat → ClassId} {h : Nat → Nat} {N : Nat} {σ : Wd} {a0 : Int32} {σ1 : Wd} (hW : WF (wsC cy h) (adC h)) (hr : f_X2_enter N σ a0 = some σ1) : Con l D cy (wsC cy h) (adC h) yX2_enter wsX2_enter rm_X2_enter 0 0 [.ref (h 16), .int a0] (none) σ σ1 := by
  refine Con.of (ρ := Wd) (lv0 := [(0, .ref (h 16)), (1, .int a0)]) (σ := σ) (fun _ : Wd => none) (fun r => r) (by decide) rfl rfl (Nat.le_of_ble_eq_true rfl) rfl hW hr (fun p e s m args below meth c E => ?_)
  unfold f_X2_enter
  refine G.aload_n E dX2_enter_0 0 rfl rfl ?_
  refine G.aload_n E dX2_enter_1 0 rfl rfl ?_
  refine G.getR (T := TX2) (N := 3) (C := RX2) (q0 := 16) (i := 0) E dX2_enter_2 iw_X2_enter_2 (wsC_at16 _ _ _) rfl (by decide) rfl (List.mem_of_getElem? (i := 1) rfl) ?_
  refine G.iload_n E dX2_enter_5 1 rfl rfl ?_
  refine G.callVi (n := 1) (T := TX4) (N := 8) (C := RX4) (a := h 1) (q0 := 1) (As := [.int a0]) E dX2_enter_6 (fun _ hv => c_X4_firstOf E.wf hv) gX2_enter_X4_firstOf rfl rfl rfl (by decide +kernel) ⟨Nat.le_of_ble_eq_true rfl, Nat.le_of_ble_eq_true rfl⟩ (wsC_at1 _ _ _) rfl rfl (Nat.le_of_ble_eq_true rfl) ⟨Nat.le_of_ble_eq_true rfl, Nat.le_of_ble_eq_true rfl⟩ (fun v1 => ?_)
  refine G.callVi (n := 1) (T := TX2) (N := 3) (C := RX2) (a := h 16) (q0 := 16) (As := [.int v1]) E dX2_enter_9 (fun _ hv => c_X2_rowOfNode E.wf hv) gX2_enter_X2_rowOfNode rfl rfl rfl (by decide +kernel) ⟨Nat.le_of_ble_eq_true rfl, Nat.le_of_ble_eq_true rfl⟩ (wsC_at16 _ _ _) rfl rfl (Nat.le_of_ble_eq_true rfl) ⟨Nat.le_of_ble_eq_true rfl, Nat.le_of_ble_eq_true rfl⟩ (fun v2 => ?_)
  refine G.istore_n (lv' := [(2, .int v2), (0, .ref (h 16)), (1, .int a0)]) E dX2_enter_12 rfl (by decide) rfl ?_
  refine G.aload_n E dX2_enter_13 1 rfl rfl ?_
  refine G.aload_n E dX2_enter_14 1 rfl rfl ?_
  refine G.getR (T := TX2) (N := 3) (C := RX2) (q0 := 16) (i := 0) E dX2_enter_15 iw_X2_enter_2 (wsC_at16 _ _ _) rfl (by decide) rfl (List.mem_of_getElem? (i := 1) rfl) ?_
  refine G.iload_n E dX2_enter_18 2 rfl rfl ?_
  refine G.callVi (n := 1) (T := TX4) (N := 8) (C := RX4) (a := h 1) (q0 := 1) (As := [.int a0]) E dX2_enter_19 (fun _ hv => c_X4_secondOf E.wf hv) gX2_enter_X4_secondOf rfl rfl rfl (by decide +kernel) ⟨Nat.le_of_ble_eq_true rfl, Nat.le_of_ble_eq_true rfl⟩ (wsC_at1 _ _ _) rfl rfl (Nat.le_of_ble_eq_true rfl) ⟨Nat.le_of_ble_eq_true rfl, Nat.le_of_ble_eq_true rfl⟩ (fun v3 => ?_)
  refine G.callVi (n := 1) (T := TX2) (N := 3) (C := RX2) (a := h 16) (q0 := 16) (As := [.int v3]) E dX2_enter_22 (fun _ hv => c_X2_rowOfNode E.wf hv) gX2_enter_X2_rowOfNode rfl rfl rfl (by decide +kernel) ⟨Nat.le_of_ble_eq_true rfl, Nat.le_of_ble_eq_true rfl⟩ (wsC_at16 _ _ _) rfl rfl (Nat.le_of_ble_eq_true rfl) ⟨Nat.le_of_ble_eq_true rfl, Nat.le_of_ble_eq_true rfl⟩ (fun v4 => ?_)
  refine G.istore_n (lv' := [(3, .int v4), (2, .int v2), (0, .ref (h 16)), (1, .int a0)]) E dX2_enter_25 rfl (by decide) rfl ?_
  refine G.aload_n E dX2_enter_26 2 rfl rfl ?_
  refine G.getR (T := TX2) (N := 3) (C := RX2) (q0 := 16) (i := 0) E dX2_enter_27 iw_X2_enter_2 (wsC_at16 _ _ _) rfl (by decide) rfl (List.mem_of_getElem? (i := 1) rfl) ?_
  refine G.iload_n E dX2_enter_30 3 rfl rfl ?_
  refine G.callVi (n := 1) (T := TX4) (N := 8) (C := RX4) (a := h 1) (q0 := 1) (As := [.int a0]) E dX2_enter_31 (fun _ hv => c_X4_conductanceOf E.wf hv) gX2_enter_X4_conductanceOf rfl rfl rfl (by decide +kernel) ⟨Nat.le_of_ble_eq_true rfl, Nat.le_of_ble_eq_true rfl⟩ (wsC_at1 _ _ _) rfl rfl (Nat.le_of_ble_eq_true rfl) ⟨Nat.le_of_ble_eq_true rfl, Nat.le_of_ble_eq_true rfl⟩ (fun v5 => ?_)
  refine G.istore (lv' := [(4, .int v5), (3, .int v4), (2, .int v2), (0, .ref (h 16)), (1, .int a0)]) E dX2_enter_34 (by decide) rfl ?_
  refine G.aload_n E dX2_enter_36 3 rfl rfl ?_
  refine G.iload_n E dX2_enter_37 2 rfl rfl ?_
  refine G.iload_n E dX2_enter_38 2 rfl rfl ?_
  refine G.iload E dX2_enter_39 0 rfl ?_
  refine G.callVv (n := 3) (T := TX2) (N := 3) (C := RX2) (a := h 16) (q0 := 16) (As := [.int v2, .int v2, .int v5]) E dX2_enter_41 (fun _ hv => c_X2_add E.wf hv) gX2_enter_X2_add rfl rfl rfl (by decide +kernel) ⟨Nat.le_of_ble_eq_true rfl, Nat.le_of_ble_eq_true rfl⟩ (wsC_at16 _ _ _) rfl rfl (Nat.le_of_ble_eq_true rfl) ⟨Nat.le_of_ble_eq_true rfl, Nat.le_of_ble_eq_true rfl⟩ (fun s6 => ?_)
  refine G.aload_n E dX2_enter_44 3 rfl rfl ?_
  refine G.iload_n E dX2_enter_45 1 rfl rfl ?_
  refine G.iload_n E dX2_enter_46 1 rfl rfl ?_
  refine G.iload E dX2_enter_47 0 rfl ?_
  refine G.callVv (n := 3) (T := TX2) (N := 3) (C := RX2) (a := h 16) (q0 := 16) (As := [.int v4, .int v4, .int v5]) E dX2_enter_49 (fun _ hv => c_X2_add E.wf hv) gX2_enter_X2_add rfl rfl rfl (by decide +kernel) ⟨Nat.le_of_ble_eq_true rfl, Nat.le_of_ble_eq_true rfl⟩ (wsC_at16 _ _ _) rfl rfl (Nat.le_of_ble_eq_true rfl) ⟨Nat.le_of_ble_eq_true rfl, Nat.le_of_ble_eq_true rfl⟩ (fun s7 => ?_)
  refine G.aload_n E dX2_enter_52 3 rfl rfl ?_
  refine G.iload_n E dX2_enter_53 2 rfl rfl ?_
  refine G.iload_n E dX2_enter_54 1 rfl rfl ?_
  refine G.iload E dX2_enter_55 0 rfl ?_
  refine G.ineg E dX2_enter_57 ?_
  refine G.callVv (n := 3) (T := TX2) (N := 3) (C := RX2) (a := h 16) (q0 := 16) (As := [.int v2, .int v4, .int (-v5)]) E dX2_enter_58 (fun _ hv => c_X2_add E.wf hv) gX2_enter_X2_add rfl rfl rfl (by decide +kernel) ⟨Nat.le_of_ble_eq_true rfl, Nat.le_of_ble_eq_true rfl⟩ (wsC_at16 _ _ _) rfl rfl (Nat.le_of_ble_eq_true rfl) ⟨Nat.le_of_ble_eq_true rfl, Nat.le_of_ble_eq_true rfl⟩ (fun s8 => ?_)
  refine G.aload_n E dX2_enter_61 3 rfl rfl ?_
  refine G.iload_n E dX2_enter_62 1 rfl rfl ?_
  refine G.iload_n E dX2_enter_63 2 rfl rfl ?_
  refine G.iload E dX2_enter_64 0 rfl ?_
  refine G.ineg E dX2_enter_66 ?_
  refine G.callVv (n := 3) (T := TX2) (N := 3) (C := RX2) (a := h 16) (q0 := 16) (As := [.int v4, .int v2, .int (-v5)]) E dX2_enter_67 (fun _ hv => c_X2_add E.wf hv) gX2_enter_X2_add rfl rfl rfl (by decide +kernel) ⟨Nat.le_of_ble_eq_true rfl, Nat.le_of_ble_eq_true rfl⟩ (wsC_at16 _ _ _) rfl rfl (Nat.le_of_ble_eq_true rfl) ⟨Nat.le_of_ble_eq_true rfl, Nat.le_of_ble_eq_true rfl⟩ (fun s9 => ?_)
  exact G.vret E dX2_enter_70 rfl rfl
abbrev rm_X2_expand (d : Nat) : Room := { frames := 1 + d, cells := 0, slots := 0, locals := 21 + 28 * d }
noncomputable def fl_X2_expand_26 {ρ : Type} (N : Nat) (rec : Wd → Int32 → Int32 → Int32 → Option (Int64)) (σ : Wd) (x1 : Int32) (x2 : Int32) (x3 : Int32) (K : Int64 → Option ρ) : Nat → Int64 → Int64 → Int32 → Option ρ
  | 0, _, _, _ => none
  | n + 1, x4, x6, x8 =>
    if 7 ≤ x8 then (
      K x4)
    else (
      bP (f_X7_isIn N x3 x8) fun v1 =>
      jn (fun (v2 : Int64) (v3 : Int64) => ((
        fl_X2_expand_26 N rec σ x1 x2 x3 K n v2 v3 (x8 + 1)) : Option (ρ))) fun j90 =>
      if v1 = 0 then (
        j90 x4 x6)
      else (
        rR 19 7 x2 fun z4_ =>
        rL σ z4_ 7 x8 fun v5 =>
        jn (fun (v6 : Int64) => ((
          lL (-x6) fun v7 =>
          j90 v6 v7) : Option (ρ))) fun j85 =>
        if (lg_cmp v5 0) = 0 then (
          j85 x4)
        else (
          rR 19 7 x2 fun z8_ =>
          rL σ z8_ 7 x8 fun v9 =>
          bP (f_X7_setOf N x8) fun v10 =>
          bP (rec σ x1 (x2 + 1) (x3 &&& (v10 ^^^ (-1)))) fun v11 =>
          lL (x4 + ((x6 * v9) * v11)) fun v12 =>
          j85 v12)))
set_option maxHeartbeats 4000000 in
set_option maxRecDepth 100000 in
theorem gl_X2_expand_26 {d : Nat} {ρ : Type} {Q : ρ → State → Prop} {N : Nat} {rec : Wd → Int32 → Int32 → Int32 → Option (Int64)} {σ : Wd} {x1 : Int32} {x2 : Int32} {x3 : Int32} {K : Int64 → Option ρ} (E : EV p s m args meth c cX2_expand 9 RX2 wsX2_expand (some .long) D cy (wsC cy h) (adC h)) (hrec : ∀ (σ : Wd) (a1 : Int32) (a2 : Int32) (a3 : Int32) (r : Int64), rec σ a1 a2 a3 = some r → Con l D cy (wsC cy h) (adC h) yX2_expand wsX2_expand (rm_X2_expand d) 0 0 [.ref (h 18), .int a1, .int a2, .int a3] ((fun r : Int64 => some (.long r)) r) σ ((fun _ => σ) r)) (hK : ∀ (x4' : Int64), G p l e (headSpec wsX2_expand (rm_X2_expand (d + 1))).room s m args below meth c 9 0 0 D (wsC cy h) (adC h) Q 96 [(4, .long (x4'))] [] σ (K x4')) :
  ∀ (n : Nat) (x4 : Int64) (x6 : Int64) (x8 : Int32), G p l e (headSpec wsX2_expand (rm_X2_expand (d + 1))).room s m args below meth c 9 0 0 D (wsC cy h) (adC h) Q 26 [(0, .ref (h 18)), (1, .int x1), (2, .int x2), (3, .int x3), (4, .long x4), (6, .long x6), (8, .int x8)] [] σ (fl_X2_expand_26 N rec σ x1 x2 x3 K n x4 x6 x8) := by
  intro n
  induction n with
  | zero => intros; exact G.no
  | succ n ih =>
    intro x4 x6 x8
    rw [fl_X2_expand_26]
    refine G.iload E dX2_expand_26 6 rfl ?_
    refine G.bipush (v := 7) E dX2_expand_28 (by decide) ?_
    refine G.icmp_ge (tgt := 96) E dX2_expand_30 (by decide) ?_ ?_
    · refine G.loc [4] rfl ?_
      exact hK x4
    · refine G.iload_n E dX2_expand_33 3 rfl rfl ?_
      refine G.iload E dX2_expand_34 6 rfl ?_
      refine G.callNi (n := 2) (As := [.int x3, .int x8]) E dX2_expand_36 (fun _ hv => c_X7_isIn E.wf hv) gX2_expand_X7_isIn_n74 (List.mem_of_getElem? (i := 4) rfl) (List.mem_of_getElem? (i := 2) rfl) (List.mem_of_getElem? (i := 1) rfl) rfl rfl rfl (by decide +kernel) ⟨by simp only [headSpec, rm_X2_expand, rm_X7_isIn]; omega, by simp only [headSpec, rm_X2_expand, rm_X7_isIn]; omega⟩ rfl (Nat.le_of_ble_eq_true rfl) ⟨Nat.le_of_ble_eq_true rfl, Nat.le_of_ble_eq_true rfl⟩ (fun v1 => ?_)
      refine G.jn (P := fun j => ∀ (v2 : Int64) (v3 : Int64), G p l e (headSpec wsX2_expand (rm_X2_expand (d + 1))).room s m args below meth c 9 0 0 D (wsC cy h) (adC h) Q 90 [(0, .ref (h 18)), (1, .int x1), (2, .int x2), (3, .int x3), (4, .long v2), (6, .long v3), (8, .int x8)] [] σ (j v2 v3)) ?_ (fun j90 hj90 => ?_)
      · intro v2 v3
        refine G.iinc (v := x8 + 1) (lv' := [(8, .int (x8 + 1)), (0, .ref (h 18)), (1, .int x1), (2, .int x2), (3, .int x3), (4, .long v2), (6, .long v3)]) E dX2_expand_90 6 rfl rfl (by decide) rfl ?_
        refine G.goto (tgt := 26) E dX2_expand_93 (by decide) ?_
        refine G.loc [1, 2, 3, 4, 5, 6, 0] rfl ?_
        exact ih v2 v3 (x8 + 1)
      · refine G.if_eq (tgt := 90) E dX2_expand_39 (by decide) ?_ ?_
        · refine G.loc [0, 1, 2, 3, 4, 5, 6] rfl ?_
          exact hj90 x4 x6
        · refine G.aload_n E dX2_expand_42 0 rfl rfl ?_
          refine G.iload_n E dX2_expand_43 2 rfl rfl ?_
          refine G.aald (q0 := 18) (t0 := 3) (h0 := h) E dX2_expand_44 (wsC_at18 _ _ _) rfl rfl (fun z4 hz4 => ?_)
          refine G.iload E dX2_expand_45 6 rfl ?_
          refine G.lald (q0 := (19 + z4)) E dX2_expand_47 (wsC_row19 _ _ _ z4 hz4) (fun v5 => ?_)
          refine G.lconst (v := 0) E dX2_expand_48 (by decide) ?_
          refine G.lcmp E dX2_expand_49 ?_
          refine G.jn (P := fun j => ∀ (v6 : Int64), G p l e (headSpec wsX2_expand (rm_X2_expand (d + 1))).room s m args below meth c 9 0 0 D (wsC cy h) (adC h) Q 85 [(0, .ref (h 18)), (1, .int x1), (2, .int x2), (3, .int x3), (4, .long v6), (6, .long x6), (8, .int x8)] [] σ (j v6)) ?_ (fun j85 hj85 => ?_)
          · intro v6
            refine G.lload E dX2_expand_85 5 rfl ?_
            refine G.lneg E dX2_expand_87 ?_
            refine G.letL (fun v7 => ?_)
            refine G.lstore (lv' := [(6, .long v7), (0, .ref (h 18)), (1, .int x1), (2, .int x2), (3, .int x3), (4, .long v6), (8, .int x8)]) E dX2_expand_88 (by decide) rfl ?_
            refine G.loc [1, 2, 3, 4, 5, 0, 6] rfl ?_
            exact hj90 v6 v7
          · refine G.if_eq (tgt := 85) E dX2_expand_50 (by decide) ?_ ?_
            · refine G.loc [0, 1, 2, 3, 4, 5, 6] rfl ?_
              exact hj85 x4
            · refine G.lload E dX2_expand_53 4 rfl ?_
              refine G.lload E dX2_expand_55 5 rfl ?_
              refine G.aload_n E dX2_expand_57 0 rfl rfl ?_
              refine G.iload_n E dX2_expand_58 2 rfl rfl ?_
              refine G.aald (q0 := 18) (t0 := 3) (h0 := h) E dX2_expand_59 (wsC_at18 _ _ _) rfl rfl (fun z8 hz8 => ?_)
              refine G.iload E dX2_expand_60 6 rfl ?_
              refine G.lald (q0 := (19 + z8)) E dX2_expand_62 (wsC_row19 _ _ _ z8 hz8) (fun v9 => ?_)
              refine G.lmul E dX2_expand_63 ?_
              refine G.aload_n E dX2_expand_64 0 rfl rfl ?_
              refine G.iload_n E dX2_expand_65 1 rfl rfl ?_
              refine G.iload_n E dX2_expand_66 2 rfl rfl ?_
              refine G.iconst (v := 1) E dX2_expand_67 (by decide) ?_
              refine G.iadd E dX2_expand_68 ?_
              refine G.iload_n E dX2_expand_69 3 rfl rfl ?_
              refine G.iload E dX2_expand_70 6 rfl ?_
              refine G.callNi (n := 1) (As := [.int x8]) E dX2_expand_72 (fun _ hv => c_X7_setOf E.wf hv) gX2_expand_X7_setOf_n48 (List.mem_of_getElem? (i := 3) rfl) (List.mem_of_getElem? (i := 2) rfl) (List.mem_of_getElem? (i := 4) rfl) rfl rfl rfl (by decide +kernel) ⟨by simp only [headSpec, rm_X2_expand, rm_X7_setOf]; omega, by simp only [headSpec, rm_X2_expand, rm_X7_setOf]; omega⟩ rfl (Nat.le_of_ble_eq_true rfl) ⟨Nat.le_of_ble_eq_true rfl, Nat.le_of_ble_eq_true rfl⟩ (fun v10 => ?_)
              refine G.iconst (v := (-1)) E dX2_expand_75 (by decide) ?_
              refine G.ixor E dX2_expand_76 ?_
              refine G.iand E dX2_expand_77 ?_
              refine G.callSl (n := 4) (As := [.ref (h 18), .int x1, .int (x2 + 1), .int (x3 &&& (v10 ^^^ (-1)))]) E dX2_expand_78 (fun _ hv => hrec _ _ _ _ _ hv) gX2_expand_X2_expand rfl rfl rfl (by decide +kernel) ⟨by simp only [headSpec, rm_X2_expand]; omega, by simp only [headSpec, rm_X2_expand]; omega⟩ rfl (Nat.le_of_ble_eq_true rfl) ⟨Nat.le_of_ble_eq_true rfl, Nat.le_of_ble_eq_true rfl⟩ (fun v11 => ?_)
              refine G.lmul E dX2_expand_81 ?_
              refine G.ladd E dX2_expand_82 ?_
              refine G.letL (fun v12 => ?_)
              refine G.lstore (lv' := [(4, .long v12), (0, .ref (h 18)), (1, .int x1), (2, .int x2), (3, .int x3), (6, .long x6), (8, .int x8)]) E dX2_expand_83 (by decide) rfl ?_
              refine G.loc [1, 2, 3, 4, 0, 5, 6] rfl ?_
              exact hj85 v12
noncomputable def f_X2_expand (N : Nat) : Nat → Wd → Int32 → Int32 → Int32 → Option (Int64)
  | 0, _, _, _, _ => none
  | d + 1, σ, a1, a2, a3 =>
    if a2 < 0 then (
      some 1)
    else (
      if a1 ≤ a2 then (
        some 1)
      else (
        if a2 < 7 then (
          fl_X2_expand_26 N (f_X2_expand N d) σ a1 a2 a3 (fun v13 =>
            some v13) N 0 1 0)
        else (
          some 1)))
set_option maxHeartbeats 4000000 in
set_option maxRecDepth 100000 in
theorem c_X2_expand_d {l : Launch} {D : va_G} {cy : Nat → ClassId} {h : Nat → Nat} {N : Nat} (hW : WF (wsC cy h) (adC h)) : ∀ (d : Nat), ∀ (σ : Wd) (a1 : Int32) (a2 : Int32) (a3 : Int32) (r : Int64), f_X2_expand N d σ a1 a2 a3 = some r → Con l D cy (wsC cy h) (adC h) yX2_expand wsX2_expand (rm_X2_expand d) 0 0 [.ref (h 18), .int a1, .int a2, .int a3] ((fun r : Int64 => some (.long r)) r) σ ((fun _ => σ) r) := by
  intro d
  induction d with
  | zero => intros; rename_i hr; exact nomatch hr
  | succ d hrec =>
    intro σ a1 a2 a3 r hr
    rw [f_X2_expand] at hr
    refine Con.of (lv0 := [(0, .ref (h 18)), (1, .int a1), (2, .int a2), (3, .int a3)]) (fun r : Int64 => some (.long r)) (fun _ => σ) (by decide) rfl rfl (Nat.le_of_ble_eq_true rfl) rfl hW hr (fun p e s m args below meth c E => ?_)
    refine G.iload_n E dX2_expand_0 2 rfl rfl ?_
    refine G.if_lt (tgt := 15) E dX2_expand_1 (by decide) ?_ ?_
    · refine G.lconst (v := 1) E dX2_expand_15 (by decide) ?_
      exact G.lret E dX2_expand_16 rfl rfl
    · refine G.iload_n E dX2_expand_4 2 rfl rfl ?_
      refine G.iload_n E dX2_expand_5 1 rfl rfl ?_
      refine G.icmp_ge (tgt := 15) E dX2_expand_6 (by decide) ?_ ?_
      · refine G.lconst (v := 1) E dX2_expand_15 (by decide) ?_
        exact G.lret E dX2_expand_16 rfl rfl
      · refine G.iload_n E dX2_expand_9 2 rfl rfl ?_
        refine G.bipush (v := 7) E dX2_expand_10 (by decide) ?_
        refine G.icmp_lt (tgt := 17) E dX2_expand_12 (by decide) ?_ ?_
        · refine G.lconst (v := 0) E dX2_expand_17 (by decide) ?_
          refine G.lstore (lv' := [(4, .long 0), (0, .ref (h 18)), (1, .int a1), (2, .int a2), (3, .int a3)]) E dX2_expand_18 (by decide) rfl ?_
          refine G.lconst (v := 1) E dX2_expand_20 (by decide) ?_
          refine G.lstore (lv' := [(6, .long 1), (4, .long 0), (0, .ref (h 18)), (1, .int a1), (2, .int a2), (3, .int a3)]) E dX2_expand_21 (by decide) rfl ?_
          refine G.iconst (v := 0) E dX2_expand_23 (by decide) ?_
          refine G.istore (lv' := [(8, .int 0), (6, .long 1), (4, .long 0), (0, .ref (h 18)), (1, .int a1), (2, .int a2), (3, .int a3)]) E dX2_expand_24 (by decide) rfl ?_
          refine G.loc [3, 4, 5, 6, 2, 1, 0] rfl ?_
          refine gl_X2_expand_26 E hrec (fun v13 => ?_) N _ _ _
          refine G.lload E dX2_expand_96 0 rfl ?_
          exact G.lret E dX2_expand_98 rfl rfl
        · refine G.lconst (v := 1) E dX2_expand_15 (by decide) ?_
          exact G.lret E dX2_expand_16 rfl rfl
set_option maxHeartbeats 4000000 in
set_option maxRecDepth 100000 in
theorem c_X2_expand {l : Launch} {D : va_G} {cy : Nat → ClassId} {h : Nat → Nat} {N : Nat} {σ : Wd} {a1 : Int32} {a2 : Int32} {a3 : Int32} {r : Int64} (hW : WF (wsC cy h) (adC h)) (hr : f_X2_expand N 10 σ a1 a2 a3 = some r) : Con l D cy (wsC cy h) (adC h) yX2_expand wsX2_expand (rm_X2_expand 10) 0 0 [.ref (h 18), .int a1, .int a2, .int a3] (some (.long r)) σ σ := c_X2_expand_d hW 10 _ _ _ _ _ hr
set_option maxHeartbeats 4000000 in
set_option maxRecDepth 100000 in
theorem iw_X2_countTreesAgain_2 : ∀ w ∈ u_ws RX2 TX2 3, w ∈ wsX2_countTreesAgain := fun _ h => List.mem_cons_of_mem _ (List.mem_append_left _ (List.mem_append_right _ h))
abbrev rm_X2_countTreesAgain : Room := { frames := 12, cells := 0, slots := 0, locals := 329 }
noncomputable def fl_X2_countTreesAgain_27 {ρ : Type} (N : Nat) (x2 : Int32) (K : Wd → Option ρ) : Nat → Int32 → Wd → Option ρ
  | 0, _, _ => none
  | n + 1, x3, s0 =>
    if 20 ≤ x3 then (
      K s0)
    else (
      bP (f_X4_hasWire N s0 x3) fun v5 =>
      jn (fun (s6 : Wd) => ((
        fl_X2_countTreesAgain_27 N x2 K n (x3 + 1) s6) : Option (ρ))) fun j60 =>
      if v5 = 0 then (
        j60 s0)
      else (
        bP (f_X4_isRing N s0 x3) fun v7 =>
        if v7 = 0 then (
          bP (f_X2_enter N s0 x3) fun s8 =>
          j60 s8)
        else (
          j60 s0)))
set_option maxHeartbeats 4000000 in
set_option maxRecDepth 100000 in
theorem gl_X2_countTreesAgain_27 {ρ : Type} {Q : ρ → State → Prop} {N : Nat} {x2 : Int32} {K : Wd → Option ρ} (E : EV p s m args meth c cX2_countTreesAgain 4 RX2 wsX2_countTreesAgain (some .long) D cy (wsC cy h) (adC h)) (hK : ∀ (s' : Wd), G p l e (headSpec wsX2_countTreesAgain rm_X2_countTreesAgain).room s m args below meth c 4 0 0 D (wsC cy h) (adC h) Q 66 [(0, .ref (h 16)), (2, .int x2)] [] s' (K s')) :
  ∀ (n : Nat) (x3 : Int32) (s0 : Wd), G p l e (headSpec wsX2_countTreesAgain rm_X2_countTreesAgain).room s m args below meth c 4 0 0 D (wsC cy h) (adC h) Q 27 [(0, .ref (h 16)), (2, .int x2), (3, .int x3)] [] s0 (fl_X2_countTreesAgain_27 N x2 K n x3 s0) := by
  intro n
  induction n with
  | zero => intros; exact G.no
  | succ n ih =>
    intro x3 s0
    rw [fl_X2_countTreesAgain_27]
    refine G.iload_n E dX2_countTreesAgain_27 2 rfl rfl ?_
    refine G.bipush (v := 20) E dX2_countTreesAgain_28 (by decide) ?_
    refine G.icmp_ge (tgt := 66) E dX2_countTreesAgain_30 (by decide) ?_ ?_
    · refine G.loc [0, 1] rfl ?_
      exact hK s0
    · refine G.aload_n E dX2_countTreesAgain_33 0 rfl rfl ?_
      refine G.getR (T := TX2) (N := 3) (C := RX2) (q0 := 16) (i := 0) E dX2_countTreesAgain_34 iw_X2_countTreesAgain_2 (wsC_at16 _ _ _) rfl (by decide) rfl (List.mem_of_getElem? (i := 1) rfl) ?_
      refine G.iload_n E dX2_countTreesAgain_37 2 rfl rfl ?_
      refine G.callVi (n := 1) (T := TX4) (N := 8) (C := RX4) (a := h 1) (q0 := 1) (As := [.int x3]) E dX2_countTreesAgain_38 (fun _ hv => c_X4_hasWire E.wf hv) gX2_countTreesAgain_X4_hasWire rfl rfl rfl (by decide +kernel) ⟨Nat.le_of_ble_eq_true rfl, Nat.le_of_ble_eq_true rfl⟩ (wsC_at1 _ _ _) rfl rfl (Nat.le_of_ble_eq_true rfl) ⟨Nat.le_of_ble_eq_true rfl, Nat.le_of_ble_eq_true rfl⟩ (fun v5 => ?_)
      refine G.jn (P := fun j => ∀ (s6 : Wd), G p l e (headSpec wsX2_countTreesAgain rm_X2_countTreesAgain).room s m args below meth c 4 0 0 D (wsC cy h) (adC h) Q 60 [(0, .ref (h 16)), (2, .int x2), (3, .int x3)] [] s6 (j s6)) ?_ (fun j60 hj60 => ?_)
      · intro s6
        refine G.iinc (v := x3 + 1) (lv' := [(3, .int (x3 + 1)), (0, .ref (h 16)), (2, .int x2)]) E dX2_countTreesAgain_60 2 rfl rfl (by decide) rfl ?_
        refine G.goto (tgt := 27) E dX2_countTreesAgain_63 (by decide) ?_
        refine G.loc [1, 2, 0] rfl ?_
        exact ih (x3 + 1) s6
      · refine G.if_eq (tgt := 60) E dX2_countTreesAgain_41 (by decide) ?_ ?_
        · refine G.loc [0, 1, 2] rfl ?_
          exact hj60 s0
        · refine G.aload_n E dX2_countTreesAgain_44 0 rfl rfl ?_
          refine G.getR (T := TX2) (N := 3) (C := RX2) (q0 := 16) (i := 0) E dX2_countTreesAgain_45 iw_X2_countTreesAgain_2 (wsC_at16 _ _ _) rfl (by decide) rfl (List.mem_of_getElem? (i := 1) rfl) ?_
          refine G.iload_n E dX2_countTreesAgain_48 2 rfl rfl ?_
          refine G.callVi (n := 1) (T := TX4) (N := 8) (C := RX4) (a := h 1) (q0 := 1) (As := [.int x3]) E dX2_countTreesAgain_49 (fun _ hv => c_X4_isRing E.wf hv) gX2_countTreesAgain_X4_isRing rfl rfl rfl (by decide +kernel) ⟨Nat.le_of_ble_eq_true rfl, Nat.le_of_ble_eq_true rfl⟩ (wsC_at1 _ _ _) rfl rfl (Nat.le_of_ble_eq_true rfl) ⟨Nat.le_of_ble_eq_true rfl, Nat.le_of_ble_eq_true rfl⟩ (fun v7 => ?_)
          refine G.if_ne (tgt := 60) E dX2_countTreesAgain_52 (by decide) ?_ ?_
          · refine G.aload_n E dX2_countTreesAgain_55 0 rfl rfl ?_
            refine G.iload_n E dX2_countTreesAgain_56 2 rfl rfl ?_
            refine G.callVv (n := 1) (T := TX2) (N := 3) (C := RX2) (a := h 16) (q0 := 16) (As := [.int x3]) E dX2_countTreesAgain_57 (fun _ hv => c_X2_enter E.wf hv) gX2_countTreesAgain_X2_enter rfl rfl rfl (by decide +kernel) ⟨Nat.le_of_ble_eq_true rfl, Nat.le_of_ble_eq_true rfl⟩ (wsC_at16 _ _ _) rfl rfl (Nat.le_of_ble_eq_true rfl) ⟨Nat.le_of_ble_eq_true rfl, Nat.le_of_ble_eq_true rfl⟩ (fun s8 => ?_)
            refine G.loc [0, 1, 2] rfl ?_
            exact hj60 s8
          · refine G.loc [0, 1, 2] rfl ?_
            exact hj60 s0
noncomputable def f_X2_countTreesAgain (N : Nat) (σ : Wd) : Option (Int64 × Wd) :=
  bP (f_X4_lowestNode N σ) fun v1 =>
  if v1 = (-1) then (
    some (0, σ))
  else (
    bS (f_X2_numberRows N σ v1) fun v2 s3 =>
    bP (f_X2_clearRows N s3) fun s4 =>
    fl_X2_countTreesAgain_27 N v2 (fun s9 =>
      bP (f_X7_setOf N v2) fun v10 =>
      bP (f_X2_expand N 10 s9 v2 0 (v10 - 1)) fun v11 =>
      some (v11, s9)) N 0 s4)
set_option maxHeartbeats 4000000 in
set_option maxRecDepth 100000 in
theorem c_X2_countTreesAgain {l : Launch} {D : va_G} {cy : Nat → ClassId} {h : Nat → Nat} {N : Nat} {σ : Wd} {r : Int64} {σ1 : Wd} (hW : WF (wsC cy h) (adC h)) (hr : f_X2_countTreesAgain N σ = some (r, σ1)) : Con l D cy (wsC cy h) (adC h) yX2_countTreesAgain wsX2_countTreesAgain rm_X2_countTreesAgain 0 0 [.ref (h 16)] (some (.long r)) σ σ1 := by
  refine Con.of (ρ := Int64 × Wd) (lv0 := [(0, .ref (h 16))]) (σ := σ) (fun r : Int64 × Wd => some (.long r.1)) (fun r => r.2) (by decide) rfl rfl (Nat.le_of_ble_eq_true rfl) rfl hW hr (fun p e s m args below meth c E => ?_)
  unfold f_X2_countTreesAgain
  refine G.aload_n E dX2_countTreesAgain_0 0 rfl rfl ?_
  refine G.getR (T := TX2) (N := 3) (C := RX2) (q0 := 16) (i := 0) E dX2_countTreesAgain_1 iw_X2_countTreesAgain_2 (wsC_at16 _ _ _) rfl (by decide) rfl (List.mem_of_getElem? (i := 1) rfl) ?_
  refine G.callVi (n := 0) (T := TX4) (N := 8) (C := RX4) (a := h 1) (q0 := 1) (As := []) E dX2_countTreesAgain_4 (fun _ hv => c_X4_lowestNode E.wf hv) gX2_countTreesAgain_X4_lowestNode rfl rfl rfl (by decide +kernel) ⟨Nat.le_of_ble_eq_true rfl, Nat.le_of_ble_eq_true rfl⟩ (wsC_at1 _ _ _) rfl rfl (Nat.le_of_ble_eq_true rfl) ⟨Nat.le_of_ble_eq_true rfl, Nat.le_of_ble_eq_true rfl⟩ (fun v1 => ?_)
  refine G.istore_n (lv' := [(1, .int v1), (0, .ref (h 16))]) E dX2_countTreesAgain_7 rfl (by decide) rfl ?_
  refine G.iload_n E dX2_countTreesAgain_8 0 rfl rfl ?_
  refine G.iconst (v := (-1)) E dX2_countTreesAgain_9 (by decide) ?_
  refine G.icmp_ne (tgt := 15) E dX2_countTreesAgain_10 (by decide) ?_ ?_
  · refine G.lconst (v := 0) E dX2_countTreesAgain_13 (by decide) ?_
    exact G.lret E dX2_countTreesAgain_14 rfl rfl
  · refine G.aload_n E dX2_countTreesAgain_15 1 rfl rfl ?_
    refine G.iload_n E dX2_countTreesAgain_16 0 rfl rfl ?_
    refine G.callVis (n := 1) (T := TX2) (N := 3) (C := RX2) (a := h 16) (q0 := 16) (As := [.int v1]) E dX2_countTreesAgain_17 (fun _ _ hv => c_X2_numberRows E.wf hv) gX2_countTreesAgain_X2_numberRows rfl rfl rfl (by decide +kernel) ⟨Nat.le_of_ble_eq_true rfl, Nat.le_of_ble_eq_true rfl⟩ (wsC_at16 _ _ _) rfl rfl (Nat.le_of_ble_eq_true rfl) ⟨Nat.le_of_ble_eq_true rfl, Nat.le_of_ble_eq_true rfl⟩ (fun v2 s3 => ?_)
    refine G.istore_n (lv' := [(2, .int v2), (1, .int v1), (0, .ref (h 16))]) E dX2_countTreesAgain_20 rfl (by decide) rfl ?_
    refine G.aload_n E dX2_countTreesAgain_21 2 rfl rfl ?_
    refine G.callVv (n := 0) (T := TX2) (N := 3) (C := RX2) (a := h 16) (q0 := 16) (As := []) E dX2_countTreesAgain_22 (fun _ hv => c_X2_clearRows E.wf hv) gX2_countTreesAgain_X2_clearRows rfl rfl rfl (by decide +kernel) ⟨Nat.le_of_ble_eq_true rfl, Nat.le_of_ble_eq_true rfl⟩ (wsC_at16 _ _ _) rfl rfl (Nat.le_of_ble_eq_true rfl) ⟨Nat.le_of_ble_eq_true rfl, Nat.le_of_ble_eq_true rfl⟩ (fun s4 => ?_)
    refine G.iconst (v := 0) E dX2_countTreesAgain_25 (by decide) ?_
    refine G.istore_n (lv' := [(3, .int 0), (2, .int v2), (1, .int v1), (0, .ref (h 16))]) E dX2_countTreesAgain_26 rfl (by decide) rfl ?_
    refine G.loc [3, 1, 0] rfl ?_
    refine gl_X2_countTreesAgain_27 E (fun s9 => ?_) N _ _
    refine G.aload_n E dX2_countTreesAgain_66 0 rfl rfl ?_
    refine G.getR (T := TX2) (N := 3) (C := RX2) (q0 := 16) (i := 2) E dX2_countTreesAgain_67 iw_X2_countTreesAgain_2 (wsC_at16 _ _ _) rfl (by decide) rfl (List.mem_of_getElem? (i := 2) rfl) ?_
    refine G.iload_n E dX2_countTreesAgain_70 1 rfl rfl ?_
    refine G.iconst (v := 0) E dX2_countTreesAgain_71 (by decide) ?_
    refine G.iload_n E dX2_countTreesAgain_72 1 rfl rfl ?_
    refine G.callNi (n := 1) (As := [.int v2]) E dX2_countTreesAgain_73 (fun _ hv => c_X7_setOf E.wf hv) gX2_countTreesAgain_X7_setOf_n48 (List.mem_of_getElem? (i := 3) rfl) (List.mem_of_getElem? (i := 14) rfl) (List.mem_of_getElem? (i := 65) rfl) rfl rfl rfl (by decide +kernel) ⟨Nat.le_of_ble_eq_true rfl, Nat.le_of_ble_eq_true rfl⟩ rfl (Nat.le_of_ble_eq_true rfl) ⟨Nat.le_of_ble_eq_true rfl, Nat.le_of_ble_eq_true rfl⟩ (fun v10 => ?_)
    refine G.iconst (v := 1) E dX2_countTreesAgain_76 (by decide) ?_
    refine G.isub E dX2_countTreesAgain_77 ?_
    refine G.callSl (n := 4) (As := [.ref (h 18), .int v2, .int 0, .int (v10 - 1)]) E dX2_countTreesAgain_78 (fun _ hv => c_X2_expand E.wf hv) gX2_countTreesAgain_X2_expand rfl rfl rfl (by decide +kernel) ⟨Nat.le_of_ble_eq_true rfl, Nat.le_of_ble_eq_true rfl⟩ rfl (Nat.le_of_ble_eq_true rfl) ⟨Nat.le_of_ble_eq_true rfl, Nat.le_of_ble_eq_true rfl⟩ (fun v11 => ?_)
    exact G.lret E dX2_countTreesAgain_81 rfl rfl
set_option maxHeartbeats 4000000 in
set_option maxRecDepth 100000 in
theorem iw_X3_spokeAt_3 : ∀ w ∈ u_ws RX3 TX3 10, w ∈ wsX3_spokeAt := fun _ h => List.mem_cons_of_mem _ (List.mem_append_right _ h)
abbrev rm_X3_spokeAt : Room := { frames := 0, cells := 0, slots := 0, locals := 0 }
noncomputable def f_X3_spokeAt (N : Nat) (σ : Wd) (a0 : Int32) : Option (Int32) :=
  if a0 < 0 then (
    some (-1))
  else (
    if 3 ≤ a0 then (
      some (-1))
    else (
      rI σ 33 3 a0 fun v1 =>
      some v1))
set_option maxHeartbeats 4000000 in
set_option maxRecDepth 100000 in
theorem c_X3_spokeAt {l : Launch} {D : va_G} {cy : Nat → ClassId} {h : Nat → Nat} {N : Nat} {σ : Wd} {a0 : Int32} {r : Int32} (hW : WF (wsC cy h) (adC h)) (hr : f_X3_spokeAt N σ a0 = some r) : Con l D cy (wsC cy h) (adC h) yX3_spokeAt wsX3_spokeAt rm_X3_spokeAt 0 0 [.ref (h 28), .int a0] (some (.int r)) σ σ := by
  refine Con.of (ρ := Int32) (lv0 := [(0, .ref (h 28)), (1, .int a0)]) (σ := σ) (fun r : Int32 => some (.int r)) (fun _ => σ) (by decide) rfl rfl (Nat.le_of_ble_eq_true rfl) rfl hW hr (fun p e s m args below meth c E => ?_)
  unfold f_X3_spokeAt
  refine G.iload_n E dX3_spokeAt_0 1 rfl rfl ?_
  refine G.if_lt (tgt := 22) E dX3_spokeAt_1 (by decide) ?_ ?_
  · refine G.iconst (v := (-1)) E dX3_spokeAt_22 (by decide) ?_
    exact G.iret E dX3_spokeAt_23 rfl rfl
  · refine G.iload_n E dX3_spokeAt_4 1 rfl rfl ?_
    refine G.aload_n E dX3_spokeAt_5 0 rfl rfl ?_
    refine G.getR (T := TX3) (N := 10) (C := RX3) (q0 := 28) (i := 2) E dX3_spokeAt_6 iw_X3_spokeAt_3 (wsC_at28 _ _ _) rfl (by decide) rfl (List.mem_of_getElem? (i := 1) rfl) ?_
    refine G.alen (q0 := 33) (t0 := 0) (v := 3) E dX3_spokeAt_9 (wsC_at33 _ _ _) rfl rfl ?_
    refine G.icmp_ge (tgt := 22) E dX3_spokeAt_10 (by decide) ?_ ?_
    · refine G.iconst (v := (-1)) E dX3_spokeAt_22 (by decide) ?_
      exact G.iret E dX3_spokeAt_23 rfl rfl
    · refine G.aload_n E dX3_spokeAt_13 0 rfl rfl ?_
      refine G.getR (T := TX3) (N := 10) (C := RX3) (q0 := 28) (i := 2) E dX3_spokeAt_14 iw_X3_spokeAt_3 (wsC_at28 _ _ _) rfl (by decide) rfl (List.mem_of_getElem? (i := 1) rfl) ?_
      refine G.iload_n E dX3_spokeAt_17 1 rfl rfl ?_
      refine G.iald (q0 := 33) E dX3_spokeAt_18 (wsC_at33 _ _ _) (fun v1 => ?_)
      refine G.goto (tgt := 23) E dX3_spokeAt_19 (by decide) ?_
      exact G.iret E dX3_spokeAt_23 rfl rfl
set_option maxHeartbeats 4000000 in
set_option maxRecDepth 100000 in
theorem iw_X3_conductanceOfSpoke_3 : ∀ w ∈ u_ws RX3 TX3 10, w ∈ wsX3_conductanceOfSpoke := fun _ h => List.mem_cons_of_mem _ (List.mem_append_left _ (List.mem_append_right _ h))
abbrev rm_X3_conductanceOfSpoke : Room := { frames := 1, cells := 0, slots := 0, locals := 21 }
noncomputable def f_X3_conductanceOfSpoke (N : Nat) (σ : Wd) (a0 : Int32) : Option (Int32) :=
  bP (f_X3_spokeAt N σ a0) fun v1 =>
  bP (f_X4_conductanceOf N σ v1) fun v2 =>
  some v2
set_option maxHeartbeats 4000000 in
set_option maxRecDepth 100000 in
theorem c_X3_conductanceOfSpoke {l : Launch} {D : va_G} {cy : Nat → ClassId} {h : Nat → Nat} {N : Nat} {σ : Wd} {a0 : Int32} {r : Int32} (hW : WF (wsC cy h) (adC h)) (hr : f_X3_conductanceOfSpoke N σ a0 = some r) : Con l D cy (wsC cy h) (adC h) yX3_conductanceOfSpoke wsX3_conductanceOfSpoke rm_X3_conductanceOfSpoke 0 0 [.ref (h 28), .int a0] (some (.int r)) σ σ := by
  refine Con.of (ρ := Int32) (lv0 := [(0, .ref (h 28)), (1, .int a0)]) (σ := σ) (fun r : Int32 => some (.int r)) (fun _ => σ) (by decide) rfl rfl (Nat.le_of_ble_eq_true rfl) rfl hW hr (fun p e s m args below meth c E => ?_)
  unfold f_X3_conductanceOfSpoke
  refine G.aload_n E dX3_conductanceOfSpoke_0 0 rfl rfl ?_
  refine G.getR (T := TX3) (N := 10) (C := RX3) (q0 := 28) (i := 0) E dX3_conductanceOfSpoke_1 iw_X3_conductanceOfSpoke_3 (wsC_at28 _ _ _) rfl (by decide) rfl (List.mem_of_getElem? (i := 1) rfl) ?_
  refine G.aload_n E dX3_conductanceOfSpoke_4 0 rfl rfl ?_
  refine G.iload_n E dX3_conductanceOfSpoke_5 1 rfl rfl ?_
  refine G.callVi (n := 1) (T := TX3) (N := 10) (C := RX3) (a := h 28) (q0 := 28) (As := [.int a0]) E dX3_conductanceOfSpoke_6 (fun _ hv => c_X3_spokeAt E.wf hv) gX3_conductanceOfSpoke_X3_spokeAt rfl rfl rfl (by decide +kernel) ⟨Nat.le_of_ble_eq_true rfl, Nat.le_of_ble_eq_true rfl⟩ (wsC_at28 _ _ _) rfl rfl (Nat.le_of_ble_eq_true rfl) ⟨Nat.le_of_ble_eq_true rfl, Nat.le_of_ble_eq_true rfl⟩ (fun v1 => ?_)
  refine G.callVi (n := 1) (T := TX4) (N := 8) (C := RX4) (a := h 1) (q0 := 1) (As := [.int v1]) E dX3_conductanceOfSpoke_9 (fun _ hv => c_X4_conductanceOf E.wf hv) gX3_conductanceOfSpoke_X4_conductanceOf rfl rfl rfl (by decide +kernel) ⟨Nat.le_of_ble_eq_true rfl, Nat.le_of_ble_eq_true rfl⟩ (wsC_at1 _ _ _) rfl rfl (Nat.le_of_ble_eq_true rfl) ⟨Nat.le_of_ble_eq_true rfl, Nat.le_of_ble_eq_true rfl⟩ (fun v2 => ?_)
  exact G.iret E dX3_conductanceOfSpoke_12 rfl rfl
abbrev rm_X4_farEndOf : Room := { frames := 1, cells := 0, slots := 0, locals := 21 }
noncomputable def f_X4_farEndOf (N : Nat) (σ : Wd) (a0 : Int32) (a1 : Int32) : Option (Int32) :=
  bP (f_X4_firstOf N σ a0) fun v1 =>
  if v1 = a1 then (
    bP (f_X4_secondOf N σ a0) fun v3 =>
    some v3)
  else (
    bP (f_X4_firstOf N σ a0) fun v2 =>
    some v2)
set_option maxHeartbeats 4000000 in
set_option maxRecDepth 100000 in
theorem c_X4_farEndOf {l : Launch} {D : va_G} {cy : Nat → ClassId} {h : Nat → Nat} {N : Nat} {σ : Wd} {a0 : Int32} {a1 : Int32} {r : Int32} (hW : WF (wsC cy h) (adC h)) (hr : f_X4_farEndOf N σ a0 a1 = some r) : Con l D cy (wsC cy h) (adC h) yX4_farEndOf wsX4_farEndOf rm_X4_farEndOf 0 0 [.ref (h 1), .int a0, .int a1] (some (.int r)) σ σ := by
  refine Con.of (ρ := Int32) (lv0 := [(0, .ref (h 1)), (1, .int a0), (2, .int a1)]) (σ := σ) (fun r : Int32 => some (.int r)) (fun _ => σ) (by decide) rfl rfl (Nat.le_of_ble_eq_true rfl) rfl hW hr (fun p e s m args below meth c E => ?_)
  unfold f_X4_farEndOf
  refine G.aload_n E dX4_farEndOf_0 0 rfl rfl ?_
  refine G.iload_n E dX4_farEndOf_1 1 rfl rfl ?_
  refine G.callVi (n := 1) (T := TX4) (N := 8) (C := RX4) (a := h 1) (q0 := 1) (As := [.int a0]) E dX4_farEndOf_2 (fun _ hv => c_X4_firstOf E.wf hv) gX4_farEndOf_X4_firstOf rfl rfl rfl (by decide +kernel) ⟨Nat.le_of_ble_eq_true rfl, Nat.le_of_ble_eq_true rfl⟩ (wsC_at1 _ _ _) rfl rfl (Nat.le_of_ble_eq_true rfl) ⟨Nat.le_of_ble_eq_true rfl, Nat.le_of_ble_eq_true rfl⟩ (fun v1 => ?_)
  refine G.iload_n E dX4_farEndOf_5 2 rfl rfl ?_
  refine G.icmp_ne (tgt := 17) E dX4_farEndOf_6 (by decide) ?_ ?_
  · refine G.aload_n E dX4_farEndOf_9 0 rfl rfl ?_
    refine G.iload_n E dX4_farEndOf_10 1 rfl rfl ?_
    refine G.callVi (n := 1) (T := TX4) (N := 8) (C := RX4) (a := h 1) (q0 := 1) (As := [.int a0]) E dX4_farEndOf_11 (fun _ hv => c_X4_secondOf E.wf hv) gX4_farEndOf_X4_secondOf rfl rfl rfl (by decide +kernel) ⟨Nat.le_of_ble_eq_true rfl, Nat.le_of_ble_eq_true rfl⟩ (wsC_at1 _ _ _) rfl rfl (Nat.le_of_ble_eq_true rfl) ⟨Nat.le_of_ble_eq_true rfl, Nat.le_of_ble_eq_true rfl⟩ (fun v3 => ?_)
    refine G.goto (tgt := 22) E dX4_farEndOf_14 (by decide) ?_
    exact G.iret E dX4_farEndOf_22 rfl rfl
  · refine G.aload_n E dX4_farEndOf_17 0 rfl rfl ?_
    refine G.iload_n E dX4_farEndOf_18 1 rfl rfl ?_
    refine G.callVi (n := 1) (T := TX4) (N := 8) (C := RX4) (a := h 1) (q0 := 1) (As := [.int a0]) E dX4_farEndOf_19 (fun _ hv => c_X4_firstOf E.wf hv) gX4_farEndOf_X4_firstOf rfl rfl rfl (by decide +kernel) ⟨Nat.le_of_ble_eq_true rfl, Nat.le_of_ble_eq_true rfl⟩ (wsC_at1 _ _ _) rfl rfl (Nat.le_of_ble_eq_true rfl) ⟨Nat.le_of_ble_eq_true rfl, Nat.le_of_ble_eq_true rfl⟩ (fun v2 => ?_)
    exact G.iret E dX4_farEndOf_22 rfl rfl
abbrev rm_X7_isConductance : Room := { frames := 0, cells := 0, slots := 0, locals := 0 }
noncomputable def f_X7_isConductance (N : Nat) (a0 : Int32) : Option (Int32) :=
  if a0 < 1 then (
    some 0)
  else (
    if 60 < a0 then (
      some 0)
    else (
      some 1))
set_option maxHeartbeats 4000000 in
set_option maxRecDepth 100000 in
theorem c_X7_isConductance {l : Launch} {D : va_G} {cy : Nat → ClassId} {h : Nat → Nat} {N : Nat} {σ : Wd} {a0 : Int32} {r : Int32} (hW : WF (wsC cy h) (adC h)) (hr : f_X7_isConductance N a0 = some r) : Con l D cy (wsC cy h) (adC h) yX7_isConductance wsX7_isConductance rm_X7_isConductance 0 0 [.int a0] (some (.int r)) σ σ := by
  refine Con.of (ρ := Int32) (lv0 := [(0, .int a0)]) (σ := σ) (fun r : Int32 => some (.int r)) (fun _ => σ) (by decide) rfl rfl (Nat.le_of_ble_eq_true rfl) rfl hW hr (fun p e s m args below meth c E => ?_)
  unfold f_X7_isConductance
  refine G.iload_n E dX7_isConductance_0 0 rfl rfl ?_
  refine G.iconst (v := 1) E dX7_isConductance_1 (by decide) ?_
  refine G.icmp_lt (tgt := 15) E dX7_isConductance_2 (by decide) ?_ ?_
  · refine G.iconst (v := 0) E dX7_isConductance_15 (by decide) ?_
    exact G.zretc E dX7_isConductance_16 rfl rfl rfl
  · refine G.iload_n E dX7_isConductance_5 0 rfl rfl ?_
    refine G.bipush (v := 60) E dX7_isConductance_6 (by decide) ?_
    refine G.icmp_gt (tgt := 15) E dX7_isConductance_8 (by decide) ?_ ?_
    · refine G.iconst (v := 0) E dX7_isConductance_15 (by decide) ?_
      exact G.zretc E dX7_isConductance_16 rfl rfl rfl
    · refine G.iconst (v := 1) E dX7_isConductance_11 (by decide) ?_
      refine G.goto (tgt := 16) E dX7_isConductance_12 (by decide) ?_
      exact G.zretc E dX7_isConductance_16 rfl rfl rfl
set_option maxHeartbeats 4000000 in
set_option maxRecDepth 100000 in
theorem iw_X5_bring_5 : ∀ w ∈ u_ws RX5 TX5 10, w ∈ wsX5_bring := fun _ h => List.mem_cons_of_mem _ (List.mem_append_right _ h)
abbrev rm_X5_bring : Room := { frames := 1, cells := 0, slots := 0, locals := 20 }
noncomputable def f_X5_bring (N : Nat) (σ : Wd) (a0 : Int32) (a1 : Int32) (a2 : Int32) (a3 : Int32) : Option (Wd) :=
  jn (fun (_u : Unit) => ((
    zb 0 (wI σ 29 0 0 fun s1 =>
    some s1)) : Option (Wd))) fun j30 =>
  if a3 ≤ 0 then (
    j30 ())
  else (
    mI a2 a3 fun v2 =>
    if v2 = 0 then (
      dI a2 a3 fun v3 =>
      bP (f_X7_isConductance N v3) fun v4 =>
      if v4 = 0 then (
        j30 ())
      else (
        gI σ 29 6 fun v5 =>
        if v5 < 3 then (
          gI σ 29 6 fun v6 =>
          aI σ 30 3 v6 a0 fun s7 =>
          gI s7 29 6 fun v8 =>
          aI s7 31 3 v8 a1 fun s9 =>
          gI s9 29 6 fun v10 =>
          dI a2 a3 fun v11 =>
          aI s9 32 3 v10 v11 fun s12 =>
          gI s12 29 6 fun v13 =>
          wI s12 29 6 (v13 + 1) fun s14 =>
          some s14)
        else (
          j30 ())))
    else (
      j30 ()))
set_option maxHeartbeats 4000000 in
set_option maxRecDepth 100000 in
theorem c_X5_bring {l : Launch} {D : va_G} {cy : Nat → ClassId} {h : Nat → Nat} {N : Nat} {σ : Wd} {a0 : Int32} {a1 : Int32} {a2 : Int32} {a3 : Int32} {σ1 : Wd} (hW : WF (wsC cy h) (adC h)) (hr : f_X5_bring N σ a0 a1 a2 a3 = some σ1) : Con l D cy (wsC cy h) (adC h) yX5_bring wsX5_bring rm_X5_bring 0 0 [.ref (h 29), .int a0, .int a1, .int a2, .int a3] (none) σ σ1 := by
  refine Con.of (ρ := Wd) (lv0 := [(0, .ref (h 29)), (1, .int a0), (2, .int a1), (3, .int a2), (4, .int a3)]) (σ := σ) (fun _ : Wd => none) (fun r => r) (by decide) rfl rfl (Nat.le_of_ble_eq_true rfl) rfl hW hr (fun p e s m args below meth c E => ?_)
  unfold f_X5_bring
  refine G.iload E dX5_bring_0 4 rfl ?_
  refine G.jn (P := fun j => ∀ (_u : Unit), G p l e (headSpec wsX5_bring rm_X5_bring).room s m args below meth c 5 0 0 D (wsC cy h) (adC h) (QM D (wsC cy h) (adC h) below args s 0 0 (fun _ : Wd => none) (fun r => r)) 30 [(0, .ref (h 29))] [] σ (j _u)) ?_ (fun j30 hj30 => ?_)
  · intro _u
    refine G.aload_n E dX5_bring_30 0 rfl rfl ?_
    refine G.iconst (v := 0) E dX5_bring_31 (by decide) ?_
    refine G.putZ (T := TX5) (N := 10) (C := RX5) (q0 := 29) (i := 0) E dX5_bring_32 iw_X5_bring_5 tyX5 tyX5_ok nmX5 (wsC_at29 _ _ _) rfl (by decide) (List.mem_of_getElem? (i := 2) rfl) rfl (by decide +kernel) (Nat.le_of_ble_eq_true rfl) (wsC_set29_0 _ _ _ _) (fun s1 => ?_)
    exact G.vret E dX5_bring_35 rfl rfl
  · refine G.if_le (tgt := 30) E dX5_bring_2 (by decide) ?_ ?_
    · refine G.loc [0] rfl ?_
      exact hj30 ()
    · refine G.iload_n E dX5_bring_5 3 rfl rfl ?_
      refine G.iload E dX5_bring_6 4 rfl ?_
      refine G.irem E dX5_bring_8 (fun v2 => ?_)
      refine G.if_ne (tgt := 30) E dX5_bring_9 (by decide) ?_ ?_
      · refine G.iload_n E dX5_bring_12 3 rfl rfl ?_
        refine G.iload E dX5_bring_13 4 rfl ?_
        refine G.idiv E dX5_bring_15 (fun v3 => ?_)
        refine G.callNi (n := 1) (As := [.int v3]) E dX5_bring_16 (fun _ hv => c_X7_isConductance E.wf hv) gX5_bring_X7_isConductance_n44 (List.mem_of_getElem? (i := 11) rfl) (List.mem_of_getElem? (i := 7) rfl) (List.mem_of_getElem? (i := 6) rfl) rfl rfl rfl (by decide +kernel) ⟨Nat.le_of_ble_eq_true rfl, Nat.le_of_ble_eq_true rfl⟩ rfl (Nat.le_of_ble_eq_true rfl) ⟨Nat.le_of_ble_eq_true rfl, Nat.le_of_ble_eq_true rfl⟩ (fun v4 => ?_)
        refine G.if_eq (tgt := 30) E dX5_bring_19 (by decide) ?_ ?_
        · refine G.loc [0] rfl ?_
          exact hj30 ()
        · refine G.aload_n E dX5_bring_22 0 rfl rfl ?_
          refine G.getI (T := TX5) (N := 10) (C := RX5) (q0 := 29) (i := 6) E dX5_bring_23 iw_X5_bring_5 (wsC_at29 _ _ _) rfl (by decide) rfl (List.mem_of_getElem? (i := 1) rfl) (fun v5 => ?_)
          refine G.iconst (v := 3) E dX5_bring_26 (by decide) ?_
          refine G.icmp_lt (tgt := 36) E dX5_bring_27 (by decide) ?_ ?_
          · refine G.aload_n E dX5_bring_36 0 rfl rfl ?_
            refine G.getR (T := TX5) (N := 10) (C := RX5) (q0 := 29) (i := 7) E dX5_bring_37 iw_X5_bring_5 (wsC_at29 _ _ _) rfl (by decide) rfl (List.mem_of_getElem? (i := 3) rfl) ?_
            refine G.aload_n E dX5_bring_40 0 rfl rfl ?_
            refine G.getI (T := TX5) (N := 10) (C := RX5) (q0 := 29) (i := 6) E dX5_bring_41 iw_X5_bring_5 (wsC_at29 _ _ _) rfl (by decide) rfl (List.mem_of_getElem? (i := 1) rfl) (fun v6 => ?_)
            refine G.iload_n E dX5_bring_44 1 rfl rfl ?_
            refine G.iast (q0 := 30) E dX5_bring_45 (wsC_at30 _ _ _) (fun j => wsC_set30 _ _ _ _ j) (fun s7 => ?_)
            refine G.aload_n E dX5_bring_46 0 rfl rfl ?_
            refine G.getR (T := TX5) (N := 10) (C := RX5) (q0 := 29) (i := 8) E dX5_bring_47 iw_X5_bring_5 (wsC_at29 _ _ _) rfl (by decide) rfl (List.mem_of_getElem? (i := 4) rfl) ?_
            refine G.aload_n E dX5_bring_50 0 rfl rfl ?_
            refine G.getI (T := TX5) (N := 10) (C := RX5) (q0 := 29) (i := 6) E dX5_bring_51 iw_X5_bring_5 (wsC_at29 _ _ _) rfl (by decide) rfl (List.mem_of_getElem? (i := 1) rfl) (fun v8 => ?_)
            refine G.iload_n E dX5_bring_54 2 rfl rfl ?_
            refine G.iast (q0 := 31) E dX5_bring_55 (wsC_at31 _ _ _) (fun j => wsC_set31 _ _ _ _ j) (fun s9 => ?_)
            refine G.aload_n E dX5_bring_56 0 rfl rfl ?_
            refine G.getR (T := TX5) (N := 10) (C := RX5) (q0 := 29) (i := 9) E dX5_bring_57 iw_X5_bring_5 (wsC_at29 _ _ _) rfl (by decide) rfl (List.mem_of_getElem? (i := 5) rfl) ?_
            refine G.aload_n E dX5_bring_60 0 rfl rfl ?_
            refine G.getI (T := TX5) (N := 10) (C := RX5) (q0 := 29) (i := 6) E dX5_bring_61 iw_X5_bring_5 (wsC_at29 _ _ _) rfl (by decide) rfl (List.mem_of_getElem? (i := 1) rfl) (fun v10 => ?_)
            refine G.iload_n E dX5_bring_64 3 rfl rfl ?_
            refine G.iload E dX5_bring_65 4 rfl ?_
            refine G.idiv E dX5_bring_67 (fun v11 => ?_)
            refine G.iast (q0 := 32) E dX5_bring_68 (wsC_at32 _ _ _) (fun j => wsC_set32 _ _ _ _ j) (fun s12 => ?_)
            refine G.aload_n E dX5_bring_69 0 rfl rfl ?_
            refine G.dup E dX5_bring_70 rfl ?_
            refine G.getI (T := TX5) (N := 10) (C := RX5) (q0 := 29) (i := 6) E dX5_bring_71 iw_X5_bring_5 (wsC_at29 _ _ _) rfl (by decide) rfl (List.mem_of_getElem? (i := 1) rfl) (fun v13 => ?_)
            refine G.iconst (v := 1) E dX5_bring_74 (by decide) ?_
            refine G.iadd E dX5_bring_75 ?_
            refine G.putI (T := TX5) (N := 10) (C := RX5) (q0 := 29) (i := 6) (ty := .int) E dX5_bring_76 iw_X5_bring_5 tyX5 tyX5_ok nmX5 (wsC_at29 _ _ _) rfl (by decide) (List.mem_of_getElem? (i := 1) rfl) rfl (by decide +kernel) rfl rfl (Nat.le_of_ble_eq_true rfl) (wsC_set29_6 _ _ _ _) (fun s14 => ?_)
            exact G.vret E dX5_bring_79 rfl rfl
          · refine G.loc [0] rfl ?_
            exact hj30 ()
      · refine G.loc [0] rfl ?_
        exact hj30 ()
set_option maxHeartbeats 4000000 in
set_option maxRecDepth 100000 in
theorem iw_X3_bringAcross_3 : ∀ w ∈ u_ws RX3 TX3 10, w ∈ wsX3_bringAcross := fun _ h => List.mem_cons_of_mem _ (List.mem_append_left _ (List.mem_append_left _ (List.mem_append_right _ h)))
abbrev rm_X3_bringAcross : Room := { frames := 2, cells := 0, slots := 0, locals := 44 }
noncomputable def f_X3_bringAcross (N : Nat) (σ : Wd) (a0 : Int32) (a1 : Int32) (a2 : Int32) (a3 : Int32) : Option (Wd) :=
  bP (f_X3_conductanceOfSpoke N σ a1) fun v1 =>
  bP (f_X3_conductanceOfSpoke N σ a2) fun v2 =>
  lI (v1 * v2) fun v3 =>
  bP (f_X3_spokeAt N σ a1) fun v4 =>
  bP (f_X4_farEndOf N σ v4 a0) fun v5 =>
  bP (f_X3_spokeAt N σ a2) fun v6 =>
  bP (f_X4_farEndOf N σ v6 a0) fun v7 =>
  bP (f_X5_bring N σ v5 v7 v3 a3) fun s8 =>
  some s8
set_option maxHeartbeats 4000000 in
set_option maxRecDepth 100000 in
theorem c_X3_bringAcross {l : Launch} {D : va_G} {cy : Nat → ClassId} {h : Nat → Nat} {N : Nat} {σ : Wd} {a0 : Int32} {a1 : Int32} {a2 : Int32} {a3 : Int32} {σ1 : Wd} (hW : WF (wsC cy h) (adC h)) (hr : f_X3_bringAcross N σ a0 a1 a2 a3 = some σ1) : Con l D cy (wsC cy h) (adC h) yX3_bringAcross wsX3_bringAcross rm_X3_bringAcross 0 0 [.ref (h 28), .int a0, .int a1, .int a2, .int a3] (none) σ σ1 := by
  refine Con.of (ρ := Wd) (lv0 := [(0, .ref (h 28)), (1, .int a0), (2, .int a1), (3, .int a2), (4, .int a3)]) (σ := σ) (fun _ : Wd => none) (fun r => r) (by decide) rfl rfl (Nat.le_of_ble_eq_true rfl) rfl hW hr (fun p e s m args below meth c E => ?_)
  unfold f_X3_bringAcross
  refine G.aload_n E dX3_bringAcross_0 0 rfl rfl ?_
  refine G.iload_n E dX3_bringAcross_1 2 rfl rfl ?_
  refine G.callVi (n := 1) (T := TX3) (N := 10) (C := RX3) (a := h 28) (q0 := 28) (As := [.int a1]) E dX3_bringAcross_2 (fun _ hv => c_X3_conductanceOfSpoke E.wf hv) gX3_bringAcross_X3_conductanceOfSpoke rfl rfl rfl (by decide +kernel) ⟨Nat.le_of_ble_eq_true rfl, Nat.le_of_ble_eq_true rfl⟩ (wsC_at28 _ _ _) rfl rfl (Nat.le_of_ble_eq_true rfl) ⟨Nat.le_of_ble_eq_true rfl, Nat.le_of_ble_eq_true rfl⟩ (fun v1 => ?_)
  refine G.aload_n E dX3_bringAcross_5 0 rfl rfl ?_
  refine G.iload_n E dX3_bringAcross_6 3 rfl rfl ?_
  refine G.callVi (n := 1) (T := TX3) (N := 10) (C := RX3) (a := h 28) (q0 := 28) (As := [.int a2]) E dX3_bringAcross_7 (fun _ hv => c_X3_conductanceOfSpoke E.wf hv) gX3_bringAcross_X3_conductanceOfSpoke rfl rfl rfl (by decide +kernel) ⟨Nat.le_of_ble_eq_true rfl, Nat.le_of_ble_eq_true rfl⟩ (wsC_at28 _ _ _) rfl rfl (Nat.le_of_ble_eq_true rfl) ⟨Nat.le_of_ble_eq_true rfl, Nat.le_of_ble_eq_true rfl⟩ (fun v2 => ?_)
  refine G.imul E dX3_bringAcross_10 ?_
  refine G.letI (fun v3 => ?_)
  refine G.istore (lv' := [(5, .int v3), (0, .ref (h 28)), (1, .int a0), (2, .int a1), (3, .int a2), (4, .int a3)]) E dX3_bringAcross_11 (by decide) rfl ?_
  refine G.aload_n E dX3_bringAcross_13 1 rfl rfl ?_
  refine G.getR (T := TX3) (N := 10) (C := RX3) (q0 := 28) (i := 1) E dX3_bringAcross_14 iw_X3_bringAcross_3 (wsC_at28 _ _ _) rfl (by decide) rfl (List.mem_of_getElem? (i := 1) rfl) ?_
  refine G.aload_n E dX3_bringAcross_17 1 rfl rfl ?_
  refine G.getR (T := TX3) (N := 10) (C := RX3) (q0 := 28) (i := 0) E dX3_bringAcross_18 iw_X3_bringAcross_3 (wsC_at28 _ _ _) rfl (by decide) rfl (List.mem_of_getElem? (i := 2) rfl) ?_
  refine G.aload_n E dX3_bringAcross_21 1 rfl rfl ?_
  refine G.iload_n E dX3_bringAcross_22 3 rfl rfl ?_
  refine G.callVi (n := 1) (T := TX3) (N := 10) (C := RX3) (a := h 28) (q0 := 28) (As := [.int a1]) E dX3_bringAcross_23 (fun _ hv => c_X3_spokeAt E.wf hv) gX3_bringAcross_X3_spokeAt rfl rfl rfl (by decide +kernel) ⟨Nat.le_of_ble_eq_true rfl, Nat.le_of_ble_eq_true rfl⟩ (wsC_at28 _ _ _) rfl rfl (Nat.le_of_ble_eq_true rfl) ⟨Nat.le_of_ble_eq_true rfl, Nat.le_of_ble_eq_true rfl⟩ (fun v4 => ?_)
  refine G.iload_n E dX3_bringAcross_26 2 rfl rfl ?_
  refine G.callVi (n := 2) (T := TX4) (N := 8) (C := RX4) (a := h 1) (q0 := 1) (As := [.int v4, .int a0]) E dX3_bringAcross_27 (fun _ hv => c_X4_farEndOf E.wf hv) gX3_bringAcross_X4_farEndOf rfl rfl rfl (by decide +kernel) ⟨Nat.le_of_ble_eq_true rfl, Nat.le_of_ble_eq_true rfl⟩ (wsC_at1 _ _ _) rfl rfl (Nat.le_of_ble_eq_true rfl) ⟨Nat.le_of_ble_eq_true rfl, Nat.le_of_ble_eq_true rfl⟩ (fun v5 => ?_)
  refine G.aload_n E dX3_bringAcross_30 1 rfl rfl ?_
  refine G.getR (T := TX3) (N := 10) (C := RX3) (q0 := 28) (i := 0) E dX3_bringAcross_31 iw_X3_bringAcross_3 (wsC_at28 _ _ _) rfl (by decide) rfl (List.mem_of_getElem? (i := 2) rfl) ?_
  refine G.aload_n E dX3_bringAcross_34 1 rfl rfl ?_
  refine G.iload_n E dX3_bringAcross_35 4 rfl rfl ?_
  refine G.callVi (n := 1) (T := TX3) (N := 10) (C := RX3) (a := h 28) (q0 := 28) (As := [.int a2]) E dX3_bringAcross_36 (fun _ hv => c_X3_spokeAt E.wf hv) gX3_bringAcross_X3_spokeAt rfl rfl rfl (by decide +kernel) ⟨Nat.le_of_ble_eq_true rfl, Nat.le_of_ble_eq_true rfl⟩ (wsC_at28 _ _ _) rfl rfl (Nat.le_of_ble_eq_true rfl) ⟨Nat.le_of_ble_eq_true rfl, Nat.le_of_ble_eq_true rfl⟩ (fun v6 => ?_)
  refine G.iload_n E dX3_bringAcross_39 2 rfl rfl ?_
  refine G.callVi (n := 2) (T := TX4) (N := 8) (C := RX4) (a := h 1) (q0 := 1) (As := [.int v6, .int a0]) E dX3_bringAcross_40 (fun _ hv => c_X4_farEndOf E.wf hv) gX3_bringAcross_X4_farEndOf rfl rfl rfl (by decide +kernel) ⟨Nat.le_of_ble_eq_true rfl, Nat.le_of_ble_eq_true rfl⟩ (wsC_at1 _ _ _) rfl rfl (Nat.le_of_ble_eq_true rfl) ⟨Nat.le_of_ble_eq_true rfl, Nat.le_of_ble_eq_true rfl⟩ (fun v7 => ?_)
  refine G.iload E dX3_bringAcross_43 0 rfl ?_
  refine G.iload E dX3_bringAcross_45 5 rfl ?_
  refine G.callVv (n := 4) (T := TX5) (N := 10) (C := RX5) (a := h 29) (q0 := 29) (As := [.int v5, .int v7, .int v3, .int a3]) E dX3_bringAcross_47 (fun _ hv => c_X5_bring E.wf hv) gX3_bringAcross_X5_bring rfl rfl rfl (by decide +kernel) ⟨Nat.le_of_ble_eq_true rfl, Nat.le_of_ble_eq_true rfl⟩ (wsC_at29 _ _ _) rfl rfl (Nat.le_of_ble_eq_true rfl) ⟨Nat.le_of_ble_eq_true rfl, Nat.le_of_ble_eq_true rfl⟩ (fun s8 => ?_)
  exact G.vret E dX3_bringAcross_50 rfl rfl
end TR
