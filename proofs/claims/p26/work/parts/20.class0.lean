section TR
variable {p : Program} {l : Launch} {e : Env} {s : State} {m : MethodId} {args : Array Value} {below : List Frame} {meth : Method} {c : Code} {D : va_G} {cy : Nat → ClassId} {h : Nat → Nat}

abbrev rm_J6_bitCount_0f7a4 : Room := { frames := 0, cells := 0, slots := 0, locals := 0 }
noncomputable def f_J6_bitCount_0f7a4 (N : Nat) (a0 : Int32) : Option (Int32) :=
  lI (a0 - (((Int32.toUInt32 a0 >>> (Int32.toUInt32 1 &&& Int32.toUInt32 31)).toInt32) &&& 1431655765)) fun v1 =>
  lI ((v1 &&& 858993459) + (((Int32.toUInt32 v1 >>> (Int32.toUInt32 2 &&& Int32.toUInt32 31)).toInt32) &&& 858993459)) fun v2 =>
  lI ((v2 + ((Int32.toUInt32 v2 >>> (Int32.toUInt32 4 &&& Int32.toUInt32 31)).toInt32)) &&& 252645135) fun v3 =>
  lI (v3 + ((Int32.toUInt32 v3 >>> (Int32.toUInt32 8 &&& Int32.toUInt32 31)).toInt32)) fun v4 =>
  lI (v4 + ((Int32.toUInt32 v4 >>> (Int32.toUInt32 16 &&& Int32.toUInt32 31)).toInt32)) fun v5 =>
  some (v5 &&& 63)
set_option maxHeartbeats 4000000 in
set_option maxRecDepth 100000 in
theorem c_J6_bitCount_0f7a4 {l : Launch} {D : va_G} {cy : Nat → ClassId} {h : Nat → Nat} {N : Nat} {σ : Wd} {a0 : Int32} {r : Int32} (hW : WF (wsC cy h) (adC h)) (hr : f_J6_bitCount_0f7a4 N a0 = some r) : Con l D cy (wsC cy h) (adC h) yJ6_bitCount_0f7a4 wsJ6_bitCount_0f7a4 rm_J6_bitCount_0f7a4 0 0 [.int a0] (some (.int r)) σ σ := by
  refine Con.of (ρ := Int32) (lv0 := [(0, .int a0)]) (σ := σ) (fun r : Int32 => some (.int r)) (fun _ => σ) (by decide) rfl rfl (Nat.le_of_ble_eq_true rfl) rfl hW hr (fun p e s m args below meth c E => ?_)
  unfold f_J6_bitCount_0f7a4
  refine G.iload_n E dJ6_bitCount_0f7a4_0 0 rfl rfl ?_
  refine G.iload_n E dJ6_bitCount_0f7a4_1 0 rfl rfl ?_
  refine G.iconst (v := 1) E dJ6_bitCount_0f7a4_2 (by decide) ?_
  refine G.iushr E dJ6_bitCount_0f7a4_3 ?_
  refine G.ldcw (v := 1431655765) E dJ6_bitCount_0f7a4_4 (List.mem_of_getElem? (i := 1) rfl) ?_
  refine G.iand E dJ6_bitCount_0f7a4_7 ?_
  refine G.isub E dJ6_bitCount_0f7a4_8 ?_
  refine G.letI (fun v1 => ?_)
  refine G.istore_n (lv' := [(0, .int v1)]) E dJ6_bitCount_0f7a4_9 rfl (by decide) rfl ?_
  refine G.iload_n E dJ6_bitCount_0f7a4_10 0 rfl rfl ?_
  refine G.ldcw (v := 858993459) E dJ6_bitCount_0f7a4_11 (List.mem_of_getElem? (i := 2) rfl) ?_
  refine G.iand E dJ6_bitCount_0f7a4_14 ?_
  refine G.iload_n E dJ6_bitCount_0f7a4_15 0 rfl rfl ?_
  refine G.iconst (v := 2) E dJ6_bitCount_0f7a4_16 (by decide) ?_
  refine G.iushr E dJ6_bitCount_0f7a4_17 ?_
  refine G.ldcw (v := 858993459) E dJ6_bitCount_0f7a4_18 (List.mem_of_getElem? (i := 2) rfl) ?_
  refine G.iand E dJ6_bitCount_0f7a4_21 ?_
  refine G.iadd E dJ6_bitCount_0f7a4_22 ?_
  refine G.letI (fun v2 => ?_)
  refine G.istore_n (lv' := [(0, .int v2)]) E dJ6_bitCount_0f7a4_23 rfl (by decide) rfl ?_
  refine G.iload_n E dJ6_bitCount_0f7a4_24 0 rfl rfl ?_
  refine G.iload_n E dJ6_bitCount_0f7a4_25 0 rfl rfl ?_
  refine G.iconst (v := 4) E dJ6_bitCount_0f7a4_26 (by decide) ?_
  refine G.iushr E dJ6_bitCount_0f7a4_27 ?_
  refine G.iadd E dJ6_bitCount_0f7a4_28 ?_
  refine G.ldcw (v := 252645135) E dJ6_bitCount_0f7a4_29 (List.mem_of_getElem? (i := 3) rfl) ?_
  refine G.iand E dJ6_bitCount_0f7a4_32 ?_
  refine G.letI (fun v3 => ?_)
  refine G.istore_n (lv' := [(0, .int v3)]) E dJ6_bitCount_0f7a4_33 rfl (by decide) rfl ?_
  refine G.iload_n E dJ6_bitCount_0f7a4_34 0 rfl rfl ?_
  refine G.iload_n E dJ6_bitCount_0f7a4_35 0 rfl rfl ?_
  refine G.bipush (v := 8) E dJ6_bitCount_0f7a4_36 (by decide) ?_
  refine G.iushr E dJ6_bitCount_0f7a4_38 ?_
  refine G.iadd E dJ6_bitCount_0f7a4_39 ?_
  refine G.letI (fun v4 => ?_)
  refine G.istore_n (lv' := [(0, .int v4)]) E dJ6_bitCount_0f7a4_40 rfl (by decide) rfl ?_
  refine G.iload_n E dJ6_bitCount_0f7a4_41 0 rfl rfl ?_
  refine G.iload_n E dJ6_bitCount_0f7a4_42 0 rfl rfl ?_
  refine G.bipush (v := 16) E dJ6_bitCount_0f7a4_43 (by decide) ?_
  refine G.iushr E dJ6_bitCount_0f7a4_45 ?_
  refine G.iadd E dJ6_bitCount_0f7a4_46 ?_
  refine G.letI (fun v5 => ?_)
  refine G.istore_n (lv' := [(0, .int v5)]) E dJ6_bitCount_0f7a4_47 rfl (by decide) rfl ?_
  refine G.iload_n E dJ6_bitCount_0f7a4_48 0 rfl rfl ?_
  refine G.bipush (v := 63) E dJ6_bitCount_0f7a4_49 (by decide) ?_
  refine G.iand E dJ6_bitCount_0f7a4_51 ?_
  exact G.iret E dJ6_bitCount_0f7a4_52 rfl rfl
set_option maxHeartbeats 4000000 in
set_option maxRecDepth 100000 in
theorem iw_X0_treeAround_0 : ∀ w ∈ u_ws RX0 TX0 9, w ∈ wsX0_treeAround := fun _ h => List.mem_cons_of_mem _ (List.mem_append_right _ h)
abbrev rm_X0_treeAround : Room := { frames := 0, cells := 0, slots := 0, locals := 0 }
noncomputable def f_X0_treeAround (N : Nat) (σ : Wd) (a0 : Int32) (a1 : Int32) : Option (Int32) :=
  if a1 < 0 then (
    some 0)
  else (
    if 8 ≤ a1 then (
      some 0)
    else (
      if a0 < 0 then (
        some 0)
      else (
        if a0 < 7 then (
          rR 8 8 a1 fun z1_ =>
          rI σ z1_ 7 a0 fun v2 =>
          some v2)
        else (
          some 0))))
set_option maxHeartbeats 4000000 in
set_option maxRecDepth 100000 in
theorem c_X0_treeAround {l : Launch} {D : va_G} {cy : Nat → ClassId} {h : Nat → Nat} {N : Nat} {σ : Wd} {a0 : Int32} {a1 : Int32} {r : Int32} (hW : WF (wsC cy h) (adC h)) (hr : f_X0_treeAround N σ a0 a1 = some r) : Con l D cy (wsC cy h) (adC h) yX0_treeAround wsX0_treeAround rm_X0_treeAround 0 0 [.ref (h 5), .int a0, .int a1] (some (.int r)) σ σ := by
  refine Con.of (ρ := Int32) (lv0 := [(0, .ref (h 5)), (1, .int a0), (2, .int a1)]) (σ := σ) (fun r : Int32 => some (.int r)) (fun _ => σ) (by decide) rfl rfl (Nat.le_of_ble_eq_true rfl) rfl hW hr (fun p e s m args below meth c E => ?_)
  unfold f_X0_treeAround
  refine G.iload_n E dX0_treeAround_0 2 rfl rfl ?_
  refine G.if_lt (tgt := 23) E dX0_treeAround_1 (by decide) ?_ ?_
  · refine G.iconst (v := 0) E dX0_treeAround_23 (by decide) ?_
    exact G.iret E dX0_treeAround_24 rfl rfl
  · refine G.iload_n E dX0_treeAround_4 2 rfl rfl ?_
    refine G.aload_n E dX0_treeAround_5 0 rfl rfl ?_
    refine G.getR (T := TX0) (N := 9) (C := RX0) (q0 := 5) (i := 2) E dX0_treeAround_6 iw_X0_treeAround_0 (wsC_at5 _ _ _) rfl (by decide) rfl (List.mem_of_getElem? (i := 1) rfl) ?_
    refine G.alen (q0 := 7) (t0 := 2) (v := 8) E dX0_treeAround_9 (wsC_at7 _ _ _) rfl rfl ?_
    refine G.icmp_ge (tgt := 23) E dX0_treeAround_10 (by decide) ?_ ?_
    · refine G.iconst (v := 0) E dX0_treeAround_23 (by decide) ?_
      exact G.iret E dX0_treeAround_24 rfl rfl
    · refine G.iload_n E dX0_treeAround_13 1 rfl rfl ?_
      refine G.if_lt (tgt := 23) E dX0_treeAround_14 (by decide) ?_ ?_
      · refine G.iconst (v := 0) E dX0_treeAround_23 (by decide) ?_
        exact G.iret E dX0_treeAround_24 rfl rfl
      · refine G.iload_n E dX0_treeAround_17 1 rfl rfl ?_
        refine G.bipush (v := 7) E dX0_treeAround_18 (by decide) ?_
        refine G.icmp_lt (tgt := 25) E dX0_treeAround_20 (by decide) ?_ ?_
        · refine G.aload_n E dX0_treeAround_25 0 rfl rfl ?_
          refine G.getR (T := TX0) (N := 9) (C := RX0) (q0 := 5) (i := 2) E dX0_treeAround_26 iw_X0_treeAround_0 (wsC_at5 _ _ _) rfl (by decide) rfl (List.mem_of_getElem? (i := 1) rfl) ?_
          refine G.iload_n E dX0_treeAround_29 2 rfl rfl ?_
          refine G.aald (q0 := 7) (t0 := 2) (h0 := h) E dX0_treeAround_30 (wsC_at7 _ _ _) rfl rfl (fun z1 hz1 => ?_)
          refine G.iload_n E dX0_treeAround_31 1 rfl rfl ?_
          refine G.iald (q0 := (8 + z1)) E dX0_treeAround_32 (wsC_row8 _ _ _ z1 hz1) (fun v2 => ?_)
          exact G.iret E dX0_treeAround_33 rfl rfl
        · refine G.iconst (v := 0) E dX0_treeAround_23 (by decide) ?_
          exact G.iret E dX0_treeAround_24 rfl rfl
abbrev rm_X7_isIn : Room := { frames := 0, cells := 0, slots := 0, locals := 0 }
noncomputable def f_X7_isIn (N : Nat) (a0 : Int32) (a1 : Int32) : Option (Int32) :=
  if ((a0 >>> (a1 &&& 31)) &&& 1) = 0 then (
    some 0)
  else (
    some 1)
set_option maxHeartbeats 4000000 in
set_option maxRecDepth 100000 in
theorem c_X7_isIn {l : Launch} {D : va_G} {cy : Nat → ClassId} {h : Nat → Nat} {N : Nat} {σ : Wd} {a0 : Int32} {a1 : Int32} {r : Int32} (hW : WF (wsC cy h) (adC h)) (hr : f_X7_isIn N a0 a1 = some r) : Con l D cy (wsC cy h) (adC h) yX7_isIn wsX7_isIn rm_X7_isIn 0 0 [.int a0, .int a1] (some (.int r)) σ σ := by
  refine Con.of (ρ := Int32) (lv0 := [(0, .int a0), (1, .int a1)]) (σ := σ) (fun r : Int32 => some (.int r)) (fun _ => σ) (by decide) rfl rfl (Nat.le_of_ble_eq_true rfl) rfl hW hr (fun p e s m args below meth c E => ?_)
  unfold f_X7_isIn
  refine G.iload_n E dX7_isIn_0 0 rfl rfl ?_
  refine G.iload_n E dX7_isIn_1 1 rfl rfl ?_
  refine G.ishr E dX7_isIn_2 ?_
  refine G.iconst (v := 1) E dX7_isIn_3 (by decide) ?_
  refine G.iand E dX7_isIn_4 ?_
  refine G.if_eq (tgt := 12) E dX7_isIn_5 (by decide) ?_ ?_
  · refine G.iconst (v := 0) E dX7_isIn_12 (by decide) ?_
    exact G.zretc E dX7_isIn_13 rfl rfl rfl
  · refine G.iconst (v := 1) E dX7_isIn_8 (by decide) ?_
    refine G.goto (tgt := 13) E dX7_isIn_9 (by decide) ?_
    exact G.zretc E dX7_isIn_13 rfl rfl rfl
set_option maxHeartbeats 4000000 in
set_option maxRecDepth 100000 in
theorem iw_X0_areTogether_0 : ∀ w ∈ u_ws RX0 TX0 9, w ∈ wsX0_areTogether := fun _ h => List.mem_cons_of_mem _ (List.mem_append_right _ h)
abbrev rm_X0_areTogether : Room := { frames := 1, cells := 0, slots := 0, locals := 22 }
noncomputable def f_X0_areTogether (N : Nat) (σ : Wd) (a0 : Int32) : Option (Int32) :=
  gI σ 5 6 fun v1 =>
  bP (f_X0_treeAround N σ v1 a0) fun v2 =>
  gI σ 5 7 fun v3 =>
  bP (f_X7_isIn N v2 v3) fun v4 =>
  zb v4 (some v4)
set_option maxHeartbeats 4000000 in
set_option maxRecDepth 100000 in
theorem c_X0_areTogether {l : Launch} {D : va_G} {cy : Nat → ClassId} {h : Nat → Nat} {N : Nat} {σ : Wd} {a0 : Int32} {r : Int32} (hW : WF (wsC cy h) (adC h)) (hr : f_X0_areTogether N σ a0 = some r) : Con l D cy (wsC cy h) (adC h) yX0_areTogether wsX0_areTogether rm_X0_areTogether 0 0 [.ref (h 5), .int a0] (some (.int r)) σ σ := by
  refine Con.of (ρ := Int32) (lv0 := [(0, .ref (h 5)), (1, .int a0)]) (σ := σ) (fun r : Int32 => some (.int r)) (fun _ => σ) (by decide) rfl rfl (Nat.le_of_ble_eq_true rfl) rfl hW hr (fun p e s m args below meth c E => ?_)
  unfold f_X0_areTogether
  refine G.aload_n E dX0_areTogether_0 0 rfl rfl ?_
  refine G.aload_n E dX0_areTogether_1 0 rfl rfl ?_
  refine G.getI (T := TX0) (N := 9) (C := RX0) (q0 := 5) (i := 6) E dX0_areTogether_2 iw_X0_areTogether_0 (wsC_at5 _ _ _) rfl (by decide) rfl (List.mem_of_getElem? (i := 1) rfl) (fun v1 => ?_)
  refine G.iload_n E dX0_areTogether_5 1 rfl rfl ?_
  refine G.callVi (n := 2) (T := TX0) (N := 9) (C := RX0) (a := h 5) (q0 := 5) (As := [.int v1, .int a0]) E dX0_areTogether_6 (fun _ hv => c_X0_treeAround E.wf hv) gX0_areTogether_X0_treeAround rfl rfl rfl (by decide +kernel) ⟨Nat.le_of_ble_eq_true rfl, Nat.le_of_ble_eq_true rfl⟩ (wsC_at5 _ _ _) rfl rfl (Nat.le_of_ble_eq_true rfl) ⟨Nat.le_of_ble_eq_true rfl, Nat.le_of_ble_eq_true rfl⟩ (fun v2 => ?_)
  refine G.aload_n E dX0_areTogether_9 0 rfl rfl ?_
  refine G.getI (T := TX0) (N := 9) (C := RX0) (q0 := 5) (i := 7) E dX0_areTogether_10 iw_X0_areTogether_0 (wsC_at5 _ _ _) rfl (by decide) rfl (List.mem_of_getElem? (i := 2) rfl) (fun v3 => ?_)
  refine G.callNi (n := 2) (As := [.int v2, .int v3]) E dX0_areTogether_13 (fun _ hv => c_X7_isIn E.wf hv) gX0_areTogether_X7_isIn_n101 (List.mem_of_getElem? (i := 0) rfl) (List.mem_of_getElem? (i := 10) rfl) (List.mem_of_getElem? (i := 9) rfl) rfl rfl rfl (by decide +kernel) ⟨Nat.le_of_ble_eq_true rfl, Nat.le_of_ble_eq_true rfl⟩ rfl (Nat.le_of_ble_eq_true rfl) ⟨Nat.le_of_ble_eq_true rfl, Nat.le_of_ble_eq_true rfl⟩ (fun v4 => ?_)
  exact G.zret E dX0_areTogether_16 rfl rfl
set_option maxHeartbeats 4000000 in
set_option maxRecDepth 100000 in
theorem iw_X4_hasWire_4 : ∀ w ∈ u_ws RX4 TX4 8, w ∈ wsX4_hasWire := fun _ h => List.mem_cons_of_mem _ (List.mem_append_right _ h)
abbrev rm_X4_hasWire : Room := { frames := 1, cells := 0, slots := 0, locals := 21 }
noncomputable def f_X4_hasWire (N : Nat) (σ : Wd) (a0 : Int32) : Option (Int32) :=
  if a0 < 0 then (
    some 0)
  else (
    if 20 ≤ a0 then (
      some 0)
    else (
      gI σ 1 2 fun v1 =>
      bP (f_X7_isIn N v1 a0) fun v2 =>
      if v2 = 0 then (
        some 0)
      else (
        some 1)))
set_option maxHeartbeats 4000000 in
set_option maxRecDepth 100000 in
theorem c_X4_hasWire {l : Launch} {D : va_G} {cy : Nat → ClassId} {h : Nat → Nat} {N : Nat} {σ : Wd} {a0 : Int32} {r : Int32} (hW : WF (wsC cy h) (adC h)) (hr : f_X4_hasWire N σ a0 = some r) : Con l D cy (wsC cy h) (adC h) yX4_hasWire wsX4_hasWire rm_X4_hasWire 0 0 [.ref (h 1), .int a0] (some (.int r)) σ σ := by
  refine Con.of (ρ := Int32) (lv0 := [(0, .ref (h 1)), (1, .int a0)]) (σ := σ) (fun r : Int32 => some (.int r)) (fun _ => σ) (by decide) rfl rfl (Nat.le_of_ble_eq_true rfl) rfl hW hr (fun p e s m args below meth c E => ?_)
  unfold f_X4_hasWire
  refine G.iload_n E dX4_hasWire_0 1 rfl rfl ?_
  refine G.if_lt (tgt := 25) E dX4_hasWire_1 (by decide) ?_ ?_
  · refine G.iconst (v := 0) E dX4_hasWire_25 (by decide) ?_
    exact G.zretc E dX4_hasWire_26 rfl rfl rfl
  · refine G.iload_n E dX4_hasWire_4 1 rfl rfl ?_
    refine G.bipush (v := 20) E dX4_hasWire_5 (by decide) ?_
    refine G.icmp_ge (tgt := 25) E dX4_hasWire_7 (by decide) ?_ ?_
    · refine G.iconst (v := 0) E dX4_hasWire_25 (by decide) ?_
      exact G.zretc E dX4_hasWire_26 rfl rfl rfl
    · refine G.aload_n E dX4_hasWire_10 0 rfl rfl ?_
      refine G.getI (T := TX4) (N := 8) (C := RX4) (q0 := 1) (i := 2) E dX4_hasWire_11 iw_X4_hasWire_4 (wsC_at1 _ _ _) rfl (by decide) rfl (List.mem_of_getElem? (i := 1) rfl) (fun v1 => ?_)
      refine G.iload_n E dX4_hasWire_14 1 rfl rfl ?_
      refine G.callNi (n := 2) (As := [.int v1, .int a0]) E dX4_hasWire_15 (fun _ hv => c_X7_isIn E.wf hv) gX4_hasWire_X7_isIn_n25 (List.mem_of_getElem? (i := 9) rfl) (List.mem_of_getElem? (i := 3) rfl) (List.mem_of_getElem? (i := 2) rfl) rfl rfl rfl (by decide +kernel) ⟨Nat.le_of_ble_eq_true rfl, Nat.le_of_ble_eq_true rfl⟩ rfl (Nat.le_of_ble_eq_true rfl) ⟨Nat.le_of_ble_eq_true rfl, Nat.le_of_ble_eq_true rfl⟩ (fun v2 => ?_)
      refine G.if_eq (tgt := 25) E dX4_hasWire_18 (by decide) ?_ ?_
      · refine G.iconst (v := 0) E dX4_hasWire_25 (by decide) ?_
        exact G.zretc E dX4_hasWire_26 rfl rfl rfl
      · refine G.iconst (v := 1) E dX4_hasWire_21 (by decide) ?_
        refine G.goto (tgt := 26) E dX4_hasWire_22 (by decide) ?_
        exact G.zretc E dX4_hasWire_26 rfl rfl rfl
set_option maxHeartbeats 4000000 in
set_option maxRecDepth 100000 in
theorem iw_X4_firstOf_4 : ∀ w ∈ u_ws RX4 TX4 8, w ∈ wsX4_firstOf := fun _ h => List.mem_cons_of_mem _ (List.mem_append_right _ h)
abbrev rm_X4_firstOf : Room := { frames := 0, cells := 0, slots := 0, locals := 0 }
noncomputable def f_X4_firstOf (N : Nat) (σ : Wd) (a0 : Int32) : Option (Int32) :=
  if a0 < 0 then (
    some (-1))
  else (
    if 20 ≤ a0 then (
      some (-1))
    else (
      rI σ 2 20 a0 fun v1 =>
      some v1))
set_option maxHeartbeats 4000000 in
set_option maxRecDepth 100000 in
theorem c_X4_firstOf {l : Launch} {D : va_G} {cy : Nat → ClassId} {h : Nat → Nat} {N : Nat} {σ : Wd} {a0 : Int32} {r : Int32} (hW : WF (wsC cy h) (adC h)) (hr : f_X4_firstOf N σ a0 = some r) : Con l D cy (wsC cy h) (adC h) yX4_firstOf wsX4_firstOf rm_X4_firstOf 0 0 [.ref (h 1), .int a0] (some (.int r)) σ σ := by
  refine Con.of (ρ := Int32) (lv0 := [(0, .ref (h 1)), (1, .int a0)]) (σ := σ) (fun r : Int32 => some (.int r)) (fun _ => σ) (by decide) rfl rfl (Nat.le_of_ble_eq_true rfl) rfl hW hr (fun p e s m args below meth c E => ?_)
  unfold f_X4_firstOf
  refine G.iload_n E dX4_firstOf_0 1 rfl rfl ?_
  refine G.if_lt (tgt := 19) E dX4_firstOf_1 (by decide) ?_ ?_
  · refine G.iconst (v := (-1)) E dX4_firstOf_19 (by decide) ?_
    exact G.iret E dX4_firstOf_20 rfl rfl
  · refine G.iload_n E dX4_firstOf_4 1 rfl rfl ?_
    refine G.bipush (v := 20) E dX4_firstOf_5 (by decide) ?_
    refine G.icmp_ge (tgt := 19) E dX4_firstOf_7 (by decide) ?_ ?_
    · refine G.iconst (v := (-1)) E dX4_firstOf_19 (by decide) ?_
      exact G.iret E dX4_firstOf_20 rfl rfl
    · refine G.aload_n E dX4_firstOf_10 0 rfl rfl ?_
      refine G.getR (T := TX4) (N := 8) (C := RX4) (q0 := 1) (i := 5) E dX4_firstOf_11 iw_X4_firstOf_4 (wsC_at1 _ _ _) rfl (by decide) rfl (List.mem_of_getElem? (i := 1) rfl) ?_
      refine G.iload_n E dX4_firstOf_14 1 rfl rfl ?_
      refine G.iald (q0 := 2) E dX4_firstOf_15 (wsC_at2 _ _ _) (fun v1 => ?_)
      refine G.goto (tgt := 20) E dX4_firstOf_16 (by decide) ?_
      exact G.iret E dX4_firstOf_20 rfl rfl
set_option maxHeartbeats 4000000 in
set_option maxRecDepth 100000 in
theorem iw_X4_secondOf_4 : ∀ w ∈ u_ws RX4 TX4 8, w ∈ wsX4_secondOf := fun _ h => List.mem_cons_of_mem _ (List.mem_append_right _ h)
abbrev rm_X4_secondOf : Room := { frames := 0, cells := 0, slots := 0, locals := 0 }
noncomputable def f_X4_secondOf (N : Nat) (σ : Wd) (a0 : Int32) : Option (Int32) :=
  if a0 < 0 then (
    some (-1))
  else (
    if 20 ≤ a0 then (
      some (-1))
    else (
      rI σ 3 20 a0 fun v1 =>
      some v1))
set_option maxHeartbeats 4000000 in
set_option maxRecDepth 100000 in
theorem c_X4_secondOf {l : Launch} {D : va_G} {cy : Nat → ClassId} {h : Nat → Nat} {N : Nat} {σ : Wd} {a0 : Int32} {r : Int32} (hW : WF (wsC cy h) (adC h)) (hr : f_X4_secondOf N σ a0 = some r) : Con l D cy (wsC cy h) (adC h) yX4_secondOf wsX4_secondOf rm_X4_secondOf 0 0 [.ref (h 1), .int a0] (some (.int r)) σ σ := by
  refine Con.of (ρ := Int32) (lv0 := [(0, .ref (h 1)), (1, .int a0)]) (σ := σ) (fun r : Int32 => some (.int r)) (fun _ => σ) (by decide) rfl rfl (Nat.le_of_ble_eq_true rfl) rfl hW hr (fun p e s m args below meth c E => ?_)
  unfold f_X4_secondOf
  refine G.iload_n E dX4_secondOf_0 1 rfl rfl ?_
  refine G.if_lt (tgt := 19) E dX4_secondOf_1 (by decide) ?_ ?_
  · refine G.iconst (v := (-1)) E dX4_secondOf_19 (by decide) ?_
    exact G.iret E dX4_secondOf_20 rfl rfl
  · refine G.iload_n E dX4_secondOf_4 1 rfl rfl ?_
    refine G.bipush (v := 20) E dX4_secondOf_5 (by decide) ?_
    refine G.icmp_ge (tgt := 19) E dX4_secondOf_7 (by decide) ?_ ?_
    · refine G.iconst (v := (-1)) E dX4_secondOf_19 (by decide) ?_
      exact G.iret E dX4_secondOf_20 rfl rfl
    · refine G.aload_n E dX4_secondOf_10 0 rfl rfl ?_
      refine G.getR (T := TX4) (N := 8) (C := RX4) (q0 := 1) (i := 6) E dX4_secondOf_11 iw_X4_secondOf_4 (wsC_at1 _ _ _) rfl (by decide) rfl (List.mem_of_getElem? (i := 1) rfl) ?_
      refine G.iload_n E dX4_secondOf_14 1 rfl rfl ?_
      refine G.iald (q0 := 3) E dX4_secondOf_15 (wsC_at3 _ _ _) (fun v1 => ?_)
      refine G.goto (tgt := 20) E dX4_secondOf_16 (by decide) ?_
      exact G.iret E dX4_secondOf_20 rfl rfl
abbrev rm_X4_isRing : Room := { frames := 1, cells := 0, slots := 0, locals := 21 }
noncomputable def f_X4_isRing (N : Nat) (σ : Wd) (a0 : Int32) : Option (Int32) :=
  bP (f_X4_firstOf N σ a0) fun v1 =>
  bP (f_X4_secondOf N σ a0) fun v2 =>
  if v1 = v2 then (
    some 1)
  else (
    some 0)
set_option maxHeartbeats 4000000 in
set_option maxRecDepth 100000 in
theorem c_X4_isRing {l : Launch} {D : va_G} {cy : Nat → ClassId} {h : Nat → Nat} {N : Nat} {σ : Wd} {a0 : Int32} {r : Int32} (hW : WF (wsC cy h) (adC h)) (hr : f_X4_isRing N σ a0 = some r) : Con l D cy (wsC cy h) (adC h) yX4_isRing wsX4_isRing rm_X4_isRing 0 0 [.ref (h 1), .int a0] (some (.int r)) σ σ := by
  refine Con.of (ρ := Int32) (lv0 := [(0, .ref (h 1)), (1, .int a0)]) (σ := σ) (fun r : Int32 => some (.int r)) (fun _ => σ) (by decide) rfl rfl (Nat.le_of_ble_eq_true rfl) rfl hW hr (fun p e s m args below meth c E => ?_)
  unfold f_X4_isRing
  refine G.aload_n E dX4_isRing_0 0 rfl rfl ?_
  refine G.iload_n E dX4_isRing_1 1 rfl rfl ?_
  refine G.callVi (n := 1) (T := TX4) (N := 8) (C := RX4) (a := h 1) (q0 := 1) (As := [.int a0]) E dX4_isRing_2 (fun _ hv => c_X4_firstOf E.wf hv) gX4_isRing_X4_firstOf rfl rfl rfl (by decide +kernel) ⟨Nat.le_of_ble_eq_true rfl, Nat.le_of_ble_eq_true rfl⟩ (wsC_at1 _ _ _) rfl rfl (Nat.le_of_ble_eq_true rfl) ⟨Nat.le_of_ble_eq_true rfl, Nat.le_of_ble_eq_true rfl⟩ (fun v1 => ?_)
  refine G.aload_n E dX4_isRing_5 0 rfl rfl ?_
  refine G.iload_n E dX4_isRing_6 1 rfl rfl ?_
  refine G.callVi (n := 1) (T := TX4) (N := 8) (C := RX4) (a := h 1) (q0 := 1) (As := [.int a0]) E dX4_isRing_7 (fun _ hv => c_X4_secondOf E.wf hv) gX4_isRing_X4_secondOf rfl rfl rfl (by decide +kernel) ⟨Nat.le_of_ble_eq_true rfl, Nat.le_of_ble_eq_true rfl⟩ (wsC_at1 _ _ _) rfl rfl (Nat.le_of_ble_eq_true rfl) ⟨Nat.le_of_ble_eq_true rfl, Nat.le_of_ble_eq_true rfl⟩ (fun v2 => ?_)
  refine G.icmp_ne (tgt := 17) E dX4_isRing_10 (by decide) ?_ ?_
  · refine G.iconst (v := 1) E dX4_isRing_13 (by decide) ?_
    refine G.goto (tgt := 18) E dX4_isRing_14 (by decide) ?_
    exact G.zretc E dX4_isRing_18 rfl rfl rfl
  · refine G.iconst (v := 0) E dX4_isRing_17 (by decide) ?_
    exact G.zretc E dX4_isRing_18 rfl rfl rfl
abbrev rm_X7_setOf : Room := { frames := 0, cells := 0, slots := 0, locals := 0 }
noncomputable def f_X7_setOf (N : Nat) (a0 : Int32) : Option (Int32) :=
  some (1 <<< (a0 &&& 31))
set_option maxHeartbeats 4000000 in
set_option maxRecDepth 100000 in
theorem c_X7_setOf {l : Launch} {D : va_G} {cy : Nat → ClassId} {h : Nat → Nat} {N : Nat} {σ : Wd} {a0 : Int32} {r : Int32} (hW : WF (wsC cy h) (adC h)) (hr : f_X7_setOf N a0 = some r) : Con l D cy (wsC cy h) (adC h) yX7_setOf wsX7_setOf rm_X7_setOf 0 0 [.int a0] (some (.int r)) σ σ := by
  refine Con.of (ρ := Int32) (lv0 := [(0, .int a0)]) (σ := σ) (fun r : Int32 => some (.int r)) (fun _ => σ) (by decide) rfl rfl (Nat.le_of_ble_eq_true rfl) rfl hW hr (fun p e s m args below meth c E => ?_)
  unfold f_X7_setOf
  refine G.iconst (v := 1) E dX7_setOf_0 (by decide) ?_
  refine G.iload_n E dX7_setOf_1 0 rfl rfl ?_
  refine G.ishl E dX7_setOf_2 ?_
  exact G.iret E dX7_setOf_3 rfl rfl
set_option maxHeartbeats 4000000 in
set_option maxRecDepth 100000 in
theorem iw_X0_begin_0 : ∀ w ∈ u_ws RX0 TX0 9, w ∈ wsX0_begin := fun _ h => List.mem_cons_of_mem _ (List.mem_append_left _ (List.mem_append_right _ h))
set_option maxHeartbeats 4000000 in
set_option maxRecDepth 100000 in
theorem iw_X0_begin_4 : ∀ w ∈ u_ws RX4 TX4 8, w ∈ wsX0_begin := fun _ h => List.mem_cons_of_mem _ (List.mem_append_right _ h)
abbrev rm_X0_begin : Room := { frames := 2, cells := 0, slots := 0, locals := 42 }
noncomputable def fl_X0_begin_31 {ρ : Type} (N : Nat) (K : Wd → Option ρ) : Nat → Int32 → Wd → Option ρ
  | 0, _, _ => none
  | n + 1, x2, s0 =>
    if 20 ≤ x2 then (
      K s0)
    else (
      bP (f_X4_hasWire N s0 x2) fun v7 =>
      jn (fun (s8 : Wd) => ((
        fl_X0_begin_31 N K n (x2 + 1) s8) : Option (ρ))) fun j91 =>
      if v7 = 0 then (
        j91 s0)
      else (
        bP (f_X4_isRing N s0 x2) fun v9 =>
        if v9 = 0 then (
          gI s0 5 4 fun v10 =>
          if 20 ≤ v10 then (
            j91 s0)
          else (
            gI s0 5 4 fun v11 =>
            aI s0 6 20 v11 x2 fun s12 =>
            gI s12 5 4 fun v13 =>
            wI s12 5 4 (v13 + 1) fun s14 =>
            j91 s14))
        else (
          j91 s0)))
set_option maxHeartbeats 4000000 in
set_option maxRecDepth 100000 in
theorem gl_X0_begin_31 {ρ : Type} {Q : ρ → State → Prop} {N : Nat} {K : Wd → Option ρ} (E : EV p s m args meth c cX0_begin 3 RX0 wsX0_begin none D cy (wsC cy h) (adC h)) (hK : ∀ (s' : Wd), G p l e (headSpec wsX0_begin rm_X0_begin).room s m args below meth c 3 0 0 D (wsC cy h) (adC h) Q 97 [(0, .ref (h 5))] [] s' (K s')) :
  ∀ (n : Nat) (x2 : Int32) (s0 : Wd), G p l e (headSpec wsX0_begin rm_X0_begin).room s m args below meth c 3 0 0 D (wsC cy h) (adC h) Q 31 [(0, .ref (h 5)), (2, .int x2)] [] s0 (fl_X0_begin_31 N K n x2 s0) := by
  intro n
  induction n with
  | zero => intros; exact G.no
  | succ n ih =>
    intro x2 s0
    rw [fl_X0_begin_31]
    refine G.iload_n E dX0_begin_31 1 rfl rfl ?_
    refine G.bipush (v := 20) E dX0_begin_32 (by decide) ?_
    refine G.icmp_ge (tgt := 97) E dX0_begin_34 (by decide) ?_ ?_
    · refine G.loc [0] rfl ?_
      exact hK s0
    · refine G.aload_n E dX0_begin_37 0 rfl rfl ?_
      refine G.getR (T := TX0) (N := 9) (C := RX0) (q0 := 5) (i := 0) E dX0_begin_38 iw_X0_begin_0 (wsC_at5 _ _ _) rfl (by decide) rfl (List.mem_of_getElem? (i := 2) rfl) ?_
      refine G.iload_n E dX0_begin_41 1 rfl rfl ?_
      refine G.callVi (n := 1) (T := TX4) (N := 8) (C := RX4) (a := h 1) (q0 := 1) (As := [.int x2]) E dX0_begin_42 (fun _ hv => c_X4_hasWire E.wf hv) gX0_begin_X4_hasWire rfl rfl rfl (by decide +kernel) ⟨Nat.le_of_ble_eq_true rfl, Nat.le_of_ble_eq_true rfl⟩ (wsC_at1 _ _ _) rfl rfl (Nat.le_of_ble_eq_true rfl) ⟨Nat.le_of_ble_eq_true rfl, Nat.le_of_ble_eq_true rfl⟩ (fun v7 => ?_)
      refine G.jn (P := fun j => ∀ (s8 : Wd), G p l e (headSpec wsX0_begin rm_X0_begin).room s m args below meth c 3 0 0 D (wsC cy h) (adC h) Q 91 [(0, .ref (h 5)), (2, .int x2)] [] s8 (j s8)) ?_ (fun j91 hj91 => ?_)
      · intro s8
        refine G.iinc (v := x2 + 1) (lv' := [(2, .int (x2 + 1)), (0, .ref (h 5))]) E dX0_begin_91 1 rfl rfl (by decide) rfl ?_
        refine G.goto (tgt := 31) E dX0_begin_94 (by decide) ?_
        refine G.loc [1, 0] rfl ?_
        exact ih (x2 + 1) s8
      · refine G.if_eq (tgt := 91) E dX0_begin_45 (by decide) ?_ ?_
        · refine G.loc [0, 1] rfl ?_
          exact hj91 s0
        · refine G.aload_n E dX0_begin_48 0 rfl rfl ?_
          refine G.getR (T := TX0) (N := 9) (C := RX0) (q0 := 5) (i := 0) E dX0_begin_49 iw_X0_begin_0 (wsC_at5 _ _ _) rfl (by decide) rfl (List.mem_of_getElem? (i := 2) rfl) ?_
          refine G.iload_n E dX0_begin_52 1 rfl rfl ?_
          refine G.callVi (n := 1) (T := TX4) (N := 8) (C := RX4) (a := h 1) (q0 := 1) (As := [.int x2]) E dX0_begin_53 (fun _ hv => c_X4_isRing E.wf hv) gX0_begin_X4_isRing rfl rfl rfl (by decide +kernel) ⟨Nat.le_of_ble_eq_true rfl, Nat.le_of_ble_eq_true rfl⟩ (wsC_at1 _ _ _) rfl rfl (Nat.le_of_ble_eq_true rfl) ⟨Nat.le_of_ble_eq_true rfl, Nat.le_of_ble_eq_true rfl⟩ (fun v9 => ?_)
          refine G.if_ne (tgt := 91) E dX0_begin_56 (by decide) ?_ ?_
          · refine G.aload_n E dX0_begin_59 0 rfl rfl ?_
            refine G.getI (T := TX0) (N := 9) (C := RX0) (q0 := 5) (i := 4) E dX0_begin_60 iw_X0_begin_0 (wsC_at5 _ _ _) rfl (by decide) rfl (List.mem_of_getElem? (i := 5) rfl) (fun v10 => ?_)
            refine G.aload_n E dX0_begin_63 0 rfl rfl ?_
            refine G.getR (T := TX0) (N := 9) (C := RX0) (q0 := 5) (i := 1) E dX0_begin_64 iw_X0_begin_0 (wsC_at5 _ _ _) rfl (by decide) rfl (List.mem_of_getElem? (i := 6) rfl) ?_
            refine G.alen (q0 := 6) (t0 := 0) (v := 20) E dX0_begin_67 (wsC_at6 _ _ _) rfl rfl ?_
            refine G.icmp_ge (tgt := 91) E dX0_begin_68 (by decide) ?_ ?_
            · refine G.loc [0, 1] rfl ?_
              exact hj91 s0
            · refine G.aload_n E dX0_begin_71 0 rfl rfl ?_
              refine G.getR (T := TX0) (N := 9) (C := RX0) (q0 := 5) (i := 1) E dX0_begin_72 iw_X0_begin_0 (wsC_at5 _ _ _) rfl (by decide) rfl (List.mem_of_getElem? (i := 6) rfl) ?_
              refine G.aload_n E dX0_begin_75 0 rfl rfl ?_
              refine G.getI (T := TX0) (N := 9) (C := RX0) (q0 := 5) (i := 4) E dX0_begin_76 iw_X0_begin_0 (wsC_at5 _ _ _) rfl (by decide) rfl (List.mem_of_getElem? (i := 5) rfl) (fun v11 => ?_)
              refine G.iload_n E dX0_begin_79 1 rfl rfl ?_
              refine G.iast (q0 := 6) E dX0_begin_80 (wsC_at6 _ _ _) (fun j => wsC_set6 _ _ _ _ j) (fun s12 => ?_)
              refine G.aload_n E dX0_begin_81 0 rfl rfl ?_
              refine G.dup E dX0_begin_82 rfl ?_
              refine G.getI (T := TX0) (N := 9) (C := RX0) (q0 := 5) (i := 4) E dX0_begin_83 iw_X0_begin_0 (wsC_at5 _ _ _) rfl (by decide) rfl (List.mem_of_getElem? (i := 5) rfl) (fun v13 => ?_)
              refine G.iconst (v := 1) E dX0_begin_86 (by decide) ?_
              refine G.iadd E dX0_begin_87 ?_
              refine G.putI (T := TX0) (N := 9) (C := RX0) (q0 := 5) (i := 4) (ty := .int) E dX0_begin_88 iw_X0_begin_0 tyX0 tyX0_ok nmX0 (wsC_at5 _ _ _) rfl (by decide) (List.mem_of_getElem? (i := 5) rfl) rfl (by decide +kernel) rfl rfl (Nat.le_of_ble_eq_true rfl) (wsC_set5_4 _ _ _ _) (fun s14 => ?_)
              refine G.loc [0, 1] rfl ?_
              exact hj91 s14
          · refine G.loc [0, 1] rfl ?_
            exact hj91 s0
noncomputable def fl_X0_begin_99 {ρ : Type} (N : Nat) (K : Wd → Option ρ) : Nat → Int32 → Wd → Option ρ
  | 0, _, _ => none
  | n + 1, x2, s0 =>
    if 7 ≤ x2 then (
      K s0)
    else (
      rR 8 8 0 fun z16_ =>
      bP (f_X7_setOf N x2) fun v17 =>
      aI s0 z16_ 7 x2 v17 fun s18 =>
      fl_X0_begin_99 N K n (x2 + 1) s18)
set_option maxHeartbeats 4000000 in
set_option maxRecDepth 100000 in
theorem gl_X0_begin_99 {ρ : Type} {Q : ρ → State → Prop} {N : Nat} {K : Wd → Option ρ} (E : EV p s m args meth c cX0_begin 3 RX0 wsX0_begin none D cy (wsC cy h) (adC h)) (hK : ∀ (s' : Wd), G p l e (headSpec wsX0_begin rm_X0_begin).room s m args below meth c 3 0 0 D (wsC cy h) (adC h) Q 123 [] [] s' (K s')) :
  ∀ (n : Nat) (x2 : Int32) (s0 : Wd), G p l e (headSpec wsX0_begin rm_X0_begin).room s m args below meth c 3 0 0 D (wsC cy h) (adC h) Q 99 [(0, .ref (h 5)), (2, .int x2)] [] s0 (fl_X0_begin_99 N K n x2 s0) := by
  intro n
  induction n with
  | zero => intros; exact G.no
  | succ n ih =>
    intro x2 s0
    rw [fl_X0_begin_99]
    refine G.iload_n E dX0_begin_99 1 rfl rfl ?_
    refine G.bipush (v := 7) E dX0_begin_100 (by decide) ?_
    refine G.icmp_ge (tgt := 123) E dX0_begin_102 (by decide) ?_ ?_
    · refine G.loc [] rfl ?_
      exact hK s0
    · refine G.aload_n E dX0_begin_105 0 rfl rfl ?_
      refine G.getR (T := TX0) (N := 9) (C := RX0) (q0 := 5) (i := 2) E dX0_begin_106 iw_X0_begin_0 (wsC_at5 _ _ _) rfl (by decide) rfl (List.mem_of_getElem? (i := 7) rfl) ?_
      refine G.iconst (v := 0) E dX0_begin_109 (by decide) ?_
      refine G.aald (q0 := 7) (t0 := 2) (h0 := h) E dX0_begin_110 (wsC_at7 _ _ _) rfl rfl (fun z16 hz16 => ?_)
      refine G.iload_n E dX0_begin_111 1 rfl rfl ?_
      refine G.iload_n E dX0_begin_112 1 rfl rfl ?_
      refine G.callNi (n := 1) (As := [.int x2]) E dX0_begin_113 (fun _ hv => c_X7_setOf E.wf hv) gX0_begin_X7_setOf_n52 (List.mem_of_getElem? (i := 1) rfl) (List.mem_of_getElem? (i := 22) rfl) (List.mem_of_getElem? (i := 38) rfl) rfl rfl rfl (by decide +kernel) ⟨Nat.le_of_ble_eq_true rfl, Nat.le_of_ble_eq_true rfl⟩ rfl (Nat.le_of_ble_eq_true rfl) ⟨Nat.le_of_ble_eq_true rfl, Nat.le_of_ble_eq_true rfl⟩ (fun v17 => ?_)
      refine G.iast (q0 := (8 + z16)) E dX0_begin_116 (wsC_row8 _ _ _ z16 hz16) (fun j => wsC_rset8 _ _ _ _ j z16 hz16) (fun s18 => ?_)
      refine G.iinc (v := x2 + 1) (lv' := [(2, .int (x2 + 1)), (0, .ref (h 5))]) E dX0_begin_117 1 rfl rfl (by decide) rfl ?_
      refine G.goto (tgt := 99) E dX0_begin_120 (by decide) ?_
      refine G.loc [1, 0] rfl ?_
      exact ih (x2 + 1) s18
noncomputable def f_X0_begin (N : Nat) (σ : Wd) (a0 : Int32) : Option (Wd) :=
  wI σ 5 3 a0 fun s1 =>
  gI s1 1 0 fun v2 =>
  bP (f_J6_bitCount_0f7a4 N v2) fun v3 =>
  bP (f_J6_bitCount_0f7a4 N a0) fun v4 =>
  wI s1 5 5 (v3 - v4) fun s5 =>
  wI s5 5 4 0 fun s6 =>
  fl_X0_begin_31 N (fun s15 =>
    fl_X0_begin_99 N (fun s19 =>
      some s19) N 0 s15) N 0 s6
set_option maxHeartbeats 4000000 in
set_option maxRecDepth 100000 in
theorem c_X0_begin {l : Launch} {D : va_G} {cy : Nat → ClassId} {h : Nat → Nat} {N : Nat} {σ : Wd} {a0 : Int32} {σ1 : Wd} (hW : WF (wsC cy h) (adC h)) (hr : f_X0_begin N σ a0 = some σ1) : Con l D cy (wsC cy h) (adC h) yX0_begin wsX0_begin rm_X0_begin 0 0 [.ref (h 5), .int a0] (none) σ σ1 := by
  refine Con.of (ρ := Wd) (lv0 := [(0, .ref (h 5)), (1, .int a0)]) (σ := σ) (fun _ : Wd => none) (fun r => r) (by decide) rfl rfl (Nat.le_of_ble_eq_true rfl) rfl hW hr (fun p e s m args below meth c E => ?_)
  unfold f_X0_begin
  refine G.aload_n E dX0_begin_0 0 rfl rfl ?_
  refine G.iload_n E dX0_begin_1 1 rfl rfl ?_
  refine G.putI (T := TX0) (N := 9) (C := RX0) (q0 := 5) (i := 3) (ty := .int) E dX0_begin_2 iw_X0_begin_0 tyX0 tyX0_ok nmX0 (wsC_at5 _ _ _) rfl (by decide) (List.mem_of_getElem? (i := 1) rfl) rfl (by decide +kernel) rfl rfl (Nat.le_of_ble_eq_true rfl) (wsC_set5_3 _ _ _ _) (fun s1 => ?_)
  refine G.aload_n E dX0_begin_5 0 rfl rfl ?_
  refine G.aload_n E dX0_begin_6 0 rfl rfl ?_
  refine G.getR (T := TX0) (N := 9) (C := RX0) (q0 := 5) (i := 0) E dX0_begin_7 iw_X0_begin_0 (wsC_at5 _ _ _) rfl (by decide) rfl (List.mem_of_getElem? (i := 2) rfl) ?_
  refine G.getI (T := TX4) (N := 8) (C := RX4) (q0 := 1) (i := 0) E dX0_begin_10 iw_X0_begin_4 (wsC_at1 _ _ _) rfl (by decide) rfl (List.mem_of_getElem? (i := 3) rfl) (fun v2 => ?_)
  refine G.callSi (n := 1) (As := [.int v2]) E dX0_begin_13 (fun _ hv => c_J6_bitCount_0f7a4 E.wf hv) gX0_begin_J6_bitCount_0f7a4 rfl rfl rfl (by decide +kernel) ⟨Nat.le_of_ble_eq_true rfl, Nat.le_of_ble_eq_true rfl⟩ rfl (Nat.le_of_ble_eq_true rfl) ⟨Nat.le_of_ble_eq_true rfl, Nat.le_of_ble_eq_true rfl⟩ (fun v3 => ?_)
  refine G.iload_n E dX0_begin_16 1 rfl rfl ?_
  refine G.callSi (n := 1) (As := [.int a0]) E dX0_begin_17 (fun _ hv => c_J6_bitCount_0f7a4 E.wf hv) gX0_begin_J6_bitCount_0f7a4 rfl rfl rfl (by decide +kernel) ⟨Nat.le_of_ble_eq_true rfl, Nat.le_of_ble_eq_true rfl⟩ rfl (Nat.le_of_ble_eq_true rfl) ⟨Nat.le_of_ble_eq_true rfl, Nat.le_of_ble_eq_true rfl⟩ (fun v4 => ?_)
  refine G.isub E dX0_begin_20 ?_
  refine G.putI (T := TX0) (N := 9) (C := RX0) (q0 := 5) (i := 5) (ty := .int) E dX0_begin_21 iw_X0_begin_0 tyX0 tyX0_ok nmX0 (wsC_at5 _ _ _) rfl (by decide) (List.mem_of_getElem? (i := 4) rfl) rfl (by decide +kernel) rfl rfl (Nat.le_of_ble_eq_true rfl) (wsC_set5_5 _ _ _ _) (fun s5 => ?_)
  refine G.aload_n E dX0_begin_24 0 rfl rfl ?_
  refine G.iconst (v := 0) E dX0_begin_25 (by decide) ?_
  refine G.putI (T := TX0) (N := 9) (C := RX0) (q0 := 5) (i := 4) (ty := .int) E dX0_begin_26 iw_X0_begin_0 tyX0 tyX0_ok nmX0 (wsC_at5 _ _ _) rfl (by decide) (List.mem_of_getElem? (i := 5) rfl) rfl (by decide +kernel) rfl rfl (Nat.le_of_ble_eq_true rfl) (wsC_set5_4 _ _ _ _) (fun s6 => ?_)
  refine G.iconst (v := 0) E dX0_begin_29 (by decide) ?_
  refine G.istore_n (lv' := [(2, .int 0), (0, .ref (h 5)), (1, .int a0)]) E dX0_begin_30 rfl (by decide) rfl ?_
  refine G.loc [1, 0] rfl ?_
  refine gl_X0_begin_31 E (fun s15 => ?_) N _ _
  refine G.iconst (v := 0) E dX0_begin_97 (by decide) ?_
  refine G.istore_n (lv' := [(2, .int 0), (0, .ref (h 5))]) E dX0_begin_98 rfl (by decide) rfl ?_
  refine G.loc [1, 0] rfl ?_
  refine gl_X0_begin_99 E (fun s19 => ?_) N _ _
  exact G.vret E dX0_begin_123 rfl rfl
set_option maxHeartbeats 4000000 in
set_option maxRecDepth 100000 in
theorem iw_X0_canTake_0 : ∀ w ∈ u_ws RX0 TX0 9, w ∈ wsX0_canTake := fun _ h => List.mem_cons_of_mem _ (List.mem_append_left _ (List.mem_append_right _ h))
abbrev rm_X0_canTake : Room := { frames := 1, cells := 0, slots := 0, locals := 22 }
noncomputable def fl_X0_canTake_85 {ρ : Type} (N : Nat) (x2 : Int32) (x6 : Int32) (K : Wd → Option ρ) : Nat → Int32 → Wd → Option ρ
  | 0, _, _ => none
  | n + 1, x7, s0 =>
    if 7 ≤ x7 then (
      K s0)
    else (
      rR 8 8 (x2 + 1) fun z9_ =>
      bP (f_X7_isIn N x6 x7) fun v10 =>
      jn (fun (v11 : Int32) => ((
        aI s0 z9_ 7 x7 v11 fun s12 =>
        fl_X0_canTake_85 N x2 x6 K n (x7 + 1) s12) : Option (ρ))) fun j126 =>
      if v10 = 0 then (
        rR 8 8 x2 fun z13_ =>
        rI s0 z13_ 7 x7 fun v14 =>
        j126 v14)
      else (
        j126 x6))
set_option maxHeartbeats 4000000 in
set_option maxRecDepth 100000 in
theorem gl_X0_canTake_85 {ρ : Type} {Q : ρ → State → Prop} {N : Nat} {x2 : Int32} {x6 : Int32} {K : Wd → Option ρ} (E : EV p s m args meth c cX0_canTake 8 RX0 wsX0_canTake (some .boolean) D cy (wsC cy h) (adC h)) (hK : ∀ (s' : Wd), G p l e (headSpec wsX0_canTake rm_X0_canTake).room s m args below meth c 8 0 0 D (wsC cy h) (adC h) Q 133 [] [] s' (K s')) :
  ∀ (n : Nat) (x7 : Int32) (s0 : Wd), G p l e (headSpec wsX0_canTake rm_X0_canTake).room s m args below meth c 8 0 0 D (wsC cy h) (adC h) Q 85 [(0, .ref (h 5)), (2, .int x2), (6, .int x6), (7, .int x7)] [] s0 (fl_X0_canTake_85 N x2 x6 K n x7 s0) := by
  intro n
  induction n with
  | zero => intros; exact G.no
  | succ n ih =>
    intro x7 s0
    rw [fl_X0_canTake_85]
    refine G.iload E dX0_canTake_85 3 rfl ?_
    refine G.bipush (v := 7) E dX0_canTake_87 (by decide) ?_
    refine G.icmp_ge (tgt := 133) E dX0_canTake_89 (by decide) ?_ ?_
    · refine G.loc [] rfl ?_
      exact hK s0
    · refine G.aload_n E dX0_canTake_92 0 rfl rfl ?_
      refine G.getR (T := TX0) (N := 9) (C := RX0) (q0 := 5) (i := 2) E dX0_canTake_93 iw_X0_canTake_0 (wsC_at5 _ _ _) rfl (by decide) rfl (List.mem_of_getElem? (i := 3) rfl) ?_
      refine G.iload_n E dX0_canTake_96 1 rfl rfl ?_
      refine G.iconst (v := 1) E dX0_canTake_97 (by decide) ?_
      refine G.iadd E dX0_canTake_98 ?_
      refine G.aald (q0 := 7) (t0 := 2) (h0 := h) E dX0_canTake_99 (wsC_at7 _ _ _) rfl rfl (fun z9 hz9 => ?_)
      refine G.iload E dX0_canTake_100 3 rfl ?_
      refine G.iload E dX0_canTake_102 2 rfl ?_
      refine G.iload E dX0_canTake_104 3 rfl ?_
      refine G.callNi (n := 2) (As := [.int x6, .int x7]) E dX0_canTake_106 (fun _ hv => c_X7_isIn E.wf hv) gX0_canTake_X7_isIn_n101 (List.mem_of_getElem? (i := 0) rfl) (List.mem_of_getElem? (i := 21) rfl) (List.mem_of_getElem? (i := 20) rfl) rfl rfl rfl (by decide +kernel) ⟨Nat.le_of_ble_eq_true rfl, Nat.le_of_ble_eq_true rfl⟩ rfl (Nat.le_of_ble_eq_true rfl) ⟨Nat.le_of_ble_eq_true rfl, Nat.le_of_ble_eq_true rfl⟩ (fun v10 => ?_)
      refine G.jn (P := fun j => ∀ (v11 : Int32), G p l e (headSpec wsX0_canTake rm_X0_canTake).room s m args below meth c 8 0 0 D (wsC cy h) (adC h) Q 126 [(0, .ref (h 5)), (2, .int x2), (6, .int x6), (7, .int x7)] [.int v11, .int x7, .ref (h (8 + z9))] s0 (j v11)) ?_ (fun j126 hj126 => ?_)
      · intro v11
        refine G.iast (q0 := (8 + z9)) E dX0_canTake_126 (wsC_row8 _ _ _ z9 hz9) (fun j => wsC_rset8 _ _ _ _ j z9 hz9) (fun s12 => ?_)
        refine G.iinc (v := x7 + 1) (lv' := [(7, .int (x7 + 1)), (0, .ref (h 5)), (2, .int x2), (6, .int x6)]) E dX0_canTake_127 3 rfl rfl (by decide) rfl ?_
        refine G.goto (tgt := 85) E dX0_canTake_130 (by decide) ?_
        refine G.loc [1, 2, 3, 0] rfl ?_
        exact ih (x7 + 1) s12
      · refine G.if_eq (tgt := 117) E dX0_canTake_109 (by decide) ?_ ?_
        · refine G.aload_n E dX0_canTake_117 0 rfl rfl ?_
          refine G.getR (T := TX0) (N := 9) (C := RX0) (q0 := 5) (i := 2) E dX0_canTake_118 iw_X0_canTake_0 (wsC_at5 _ _ _) rfl (by decide) rfl (List.mem_of_getElem? (i := 3) rfl) ?_
          refine G.iload_n E dX0_canTake_121 1 rfl rfl ?_
          refine G.aald (q0 := 7) (t0 := 2) (h0 := h) E dX0_canTake_122 (wsC_at7 _ _ _) rfl rfl (fun z13 hz13 => ?_)
          refine G.iload E dX0_canTake_123 3 rfl ?_
          refine G.iald (q0 := (8 + z13)) E dX0_canTake_125 (wsC_row8 _ _ _ z13 hz13) (fun v14 => ?_)
          refine G.loc [0, 1, 2, 3] rfl ?_
          exact hj126 v14
        · refine G.iload E dX0_canTake_112 2 rfl ?_
          refine G.goto (tgt := 126) E dX0_canTake_114 (by decide) ?_
          refine G.loc [0, 1, 2, 3] rfl ?_
          exact hj126 x6
noncomputable def f_X0_canTake (N : Nat) (σ : Wd) (a0 : Int32) (a1 : Int32) : Option (Int32 × Wd) :=
  bP (f_X4_firstOf N σ a0) fun v1 =>
  bP (f_X4_secondOf N σ a0) fun v2 =>
  bP (f_X0_treeAround N σ v1 a1) fun v3 =>
  bP (f_X0_treeAround N σ v2 a1) fun v4 =>
  lI (v3 ||| v4) fun v5 =>
  bP (f_X7_isIn N v3 v2) fun v6 =>
  if v6 = 0 then (
    gI σ 5 3 fun v7 =>
    bP (f_J6_bitCount_0f7a4 N (v5 &&& v7)) fun v8 =>
    if v8 ≤ 1 then (
      if a1 < 0 then (
        some (0, σ))
      else (
        if (a1 + 1) < 8 then (
          fl_X0_canTake_85 N a1 v5 (fun s15 =>
            some (1, s15)) N 0 σ)
        else (
          some (0, σ))))
    else (
      some (0, σ)))
  else (
    some (0, σ))
set_option maxHeartbeats 4000000 in
set_option maxRecDepth 100000 in
theorem c_X0_canTake {l : Launch} {D : va_G} {cy : Nat → ClassId} {h : Nat → Nat} {N : Nat} {σ : Wd} {a0 : Int32} {a1 : Int32} {r : Int32} {σ1 : Wd} (hW : WF (wsC cy h) (adC h)) (hr : f_X0_canTake N σ a0 a1 = some (r, σ1)) : Con l D cy (wsC cy h) (adC h) yX0_canTake wsX0_canTake rm_X0_canTake 0 0 [.ref (h 5), .int a0, .int a1] (some (.int r)) σ σ1 := by
  refine Con.of (ρ := Int32 × Wd) (lv0 := [(0, .ref (h 5)), (1, .int a0), (2, .int a1)]) (σ := σ) (fun r : Int32 × Wd => some (.int r.1)) (fun r => r.2) (by decide) rfl rfl (Nat.le_of_ble_eq_true rfl) rfl hW hr (fun p e s m args below meth c E => ?_)
  unfold f_X0_canTake
  refine G.aload_n E dX0_canTake_0 0 rfl rfl ?_
  refine G.getR (T := TX0) (N := 9) (C := RX0) (q0 := 5) (i := 0) E dX0_canTake_1 iw_X0_canTake_0 (wsC_at5 _ _ _) rfl (by decide) rfl (List.mem_of_getElem? (i := 1) rfl) ?_
  refine G.iload_n E dX0_canTake_4 1 rfl rfl ?_
  refine G.callVi (n := 1) (T := TX4) (N := 8) (C := RX4) (a := h 1) (q0 := 1) (As := [.int a0]) E dX0_canTake_5 (fun _ hv => c_X4_firstOf E.wf hv) gX0_canTake_X4_firstOf rfl rfl rfl (by decide +kernel) ⟨Nat.le_of_ble_eq_true rfl, Nat.le_of_ble_eq_true rfl⟩ (wsC_at1 _ _ _) rfl rfl (Nat.le_of_ble_eq_true rfl) ⟨Nat.le_of_ble_eq_true rfl, Nat.le_of_ble_eq_true rfl⟩ (fun v1 => ?_)
  refine G.istore_n (lv' := [(3, .int v1), (0, .ref (h 5)), (1, .int a0), (2, .int a1)]) E dX0_canTake_8 rfl (by decide) rfl ?_
  refine G.aload_n E dX0_canTake_9 1 rfl rfl ?_
  refine G.getR (T := TX0) (N := 9) (C := RX0) (q0 := 5) (i := 0) E dX0_canTake_10 iw_X0_canTake_0 (wsC_at5 _ _ _) rfl (by decide) rfl (List.mem_of_getElem? (i := 1) rfl) ?_
  refine G.iload_n E dX0_canTake_13 2 rfl rfl ?_
  refine G.callVi (n := 1) (T := TX4) (N := 8) (C := RX4) (a := h 1) (q0 := 1) (As := [.int a0]) E dX0_canTake_14 (fun _ hv => c_X4_secondOf E.wf hv) gX0_canTake_X4_secondOf rfl rfl rfl (by decide +kernel) ⟨Nat.le_of_ble_eq_true rfl, Nat.le_of_ble_eq_true rfl⟩ (wsC_at1 _ _ _) rfl rfl (Nat.le_of_ble_eq_true rfl) ⟨Nat.le_of_ble_eq_true rfl, Nat.le_of_ble_eq_true rfl⟩ (fun v2 => ?_)
  refine G.istore (lv' := [(4, .int v2), (3, .int v1), (0, .ref (h 5)), (1, .int a0), (2, .int a1)]) E dX0_canTake_17 (by decide) rfl ?_
  refine G.aload_n E dX0_canTake_19 2 rfl rfl ?_
  refine G.iload_n E dX0_canTake_20 1 rfl rfl ?_
  refine G.iload_n E dX0_canTake_21 4 rfl rfl ?_
  refine G.callVi (n := 2) (T := TX0) (N := 9) (C := RX0) (a := h 5) (q0 := 5) (As := [.int v1, .int a1]) E dX0_canTake_22 (fun _ hv => c_X0_treeAround E.wf hv) gX0_canTake_X0_treeAround rfl rfl rfl (by decide +kernel) ⟨Nat.le_of_ble_eq_true rfl, Nat.le_of_ble_eq_true rfl⟩ (wsC_at5 _ _ _) rfl rfl (Nat.le_of_ble_eq_true rfl) ⟨Nat.le_of_ble_eq_true rfl, Nat.le_of_ble_eq_true rfl⟩ (fun v3 => ?_)
  refine G.istore (lv' := [(5, .int v3), (4, .int v2), (3, .int v1), (0, .ref (h 5)), (1, .int a0), (2, .int a1)]) E dX0_canTake_25 (by decide) rfl ?_
  refine G.iload E dX0_canTake_27 0 rfl ?_
  refine G.aload_n E dX0_canTake_29 3 rfl rfl ?_
  refine G.iload E dX0_canTake_30 1 rfl ?_
  refine G.iload_n E dX0_canTake_32 5 rfl rfl ?_
  refine G.callVi (n := 2) (T := TX0) (N := 9) (C := RX0) (a := h 5) (q0 := 5) (As := [.int v2, .int a1]) E dX0_canTake_33 (fun _ hv => c_X0_treeAround E.wf hv) gX0_canTake_X0_treeAround rfl rfl rfl (by decide +kernel) ⟨Nat.le_of_ble_eq_true rfl, Nat.le_of_ble_eq_true rfl⟩ (wsC_at5 _ _ _) rfl rfl (Nat.le_of_ble_eq_true rfl) ⟨Nat.le_of_ble_eq_true rfl, Nat.le_of_ble_eq_true rfl⟩ (fun v4 => ?_)
  refine G.ior E dX0_canTake_36 ?_
  refine G.letI (fun v5 => ?_)
  refine G.istore (lv' := [(6, .int v5), (5, .int v3), (4, .int v2), (3, .int v1), (0, .ref (h 5)), (1, .int a0), (2, .int a1)]) E dX0_canTake_37 (by decide) rfl ?_
  refine G.iload E dX0_canTake_39 1 rfl ?_
  refine G.iload E dX0_canTake_41 2 rfl ?_
  refine G.callNi (n := 2) (As := [.int v3, .int v2]) E dX0_canTake_43 (fun _ hv => c_X7_isIn E.wf hv) gX0_canTake_X7_isIn_n101 (List.mem_of_getElem? (i := 0) rfl) (List.mem_of_getElem? (i := 21) rfl) (List.mem_of_getElem? (i := 20) rfl) rfl rfl rfl (by decide +kernel) ⟨Nat.le_of_ble_eq_true rfl, Nat.le_of_ble_eq_true rfl⟩ rfl (Nat.le_of_ble_eq_true rfl) ⟨Nat.le_of_ble_eq_true rfl, Nat.le_of_ble_eq_true rfl⟩ (fun v6 => ?_)
  refine G.if_ne (tgt := 63) E dX0_canTake_46 (by decide) ?_ ?_
  · refine G.iload E dX0_canTake_49 0 rfl ?_
    refine G.aload_n E dX0_canTake_51 4 rfl rfl ?_
    refine G.getI (T := TX0) (N := 9) (C := RX0) (q0 := 5) (i := 3) E dX0_canTake_52 iw_X0_canTake_0 (wsC_at5 _ _ _) rfl (by decide) rfl (List.mem_of_getElem? (i := 2) rfl) (fun v7 => ?_)
    refine G.iand E dX0_canTake_55 ?_
    refine G.callSi (n := 1) (As := [.int (v5 &&& v7)]) E dX0_canTake_56 (fun _ hv => c_J6_bitCount_0f7a4 E.wf hv) gX0_canTake_J6_bitCount_0f7a4 rfl rfl rfl (by decide +kernel) ⟨Nat.le_of_ble_eq_true rfl, Nat.le_of_ble_eq_true rfl⟩ rfl (Nat.le_of_ble_eq_true rfl) ⟨Nat.le_of_ble_eq_true rfl, Nat.le_of_ble_eq_true rfl⟩ (fun v8 => ?_)
    refine G.iconst (v := 1) E dX0_canTake_59 (by decide) ?_
    refine G.icmp_le (tgt := 65) E dX0_canTake_60 (by decide) ?_ ?_
    · refine G.iload_n E dX0_canTake_65 6 rfl rfl ?_
      refine G.if_lt (tgt := 80) E dX0_canTake_66 (by decide) ?_ ?_
      · refine G.iconst (v := 0) E dX0_canTake_80 (by decide) ?_
        exact G.zretc E dX0_canTake_81 rfl rfl rfl
      · refine G.iload_n E dX0_canTake_69 6 rfl rfl ?_
        refine G.iconst (v := 1) E dX0_canTake_70 (by decide) ?_
        refine G.iadd E dX0_canTake_71 ?_
        refine G.aload_n E dX0_canTake_72 4 rfl rfl ?_
        refine G.getR (T := TX0) (N := 9) (C := RX0) (q0 := 5) (i := 2) E dX0_canTake_73 iw_X0_canTake_0 (wsC_at5 _ _ _) rfl (by decide) rfl (List.mem_of_getElem? (i := 3) rfl) ?_
        refine G.alen (q0 := 7) (t0 := 2) (v := 8) E dX0_canTake_76 (wsC_at7 _ _ _) rfl rfl ?_
        refine G.icmp_lt (tgt := 82) E dX0_canTake_77 (by decide) ?_ ?_
        · refine G.iconst (v := 0) E dX0_canTake_82 (by decide) ?_
          refine G.istore (lv' := [(7, .int 0), (6, .int v5), (5, .int v3), (4, .int v2), (3, .int v1), (0, .ref (h 5)), (1, .int a0), (2, .int a1)]) E dX0_canTake_83 (by decide) rfl ?_
          refine G.loc [5, 7, 1, 0] rfl ?_
          refine gl_X0_canTake_85 E (fun s15 => ?_) N _ _
          refine G.iconst (v := 1) E dX0_canTake_133 (by decide) ?_
          exact G.zretc E dX0_canTake_134 rfl rfl rfl
        · refine G.iconst (v := 0) E dX0_canTake_80 (by decide) ?_
          exact G.zretc E dX0_canTake_81 rfl rfl rfl
    · refine G.iconst (v := 0) E dX0_canTake_63 (by decide) ?_
      exact G.zretc E dX0_canTake_64 rfl rfl rfl
  · refine G.iconst (v := 0) E dX0_canTake_63 (by decide) ?_
    exact G.zretc E dX0_canTake_64 rfl rfl rfl
set_option maxHeartbeats 4000000 in
set_option maxRecDepth 100000 in
theorem iw_X0_wireOf_0 : ∀ w ∈ u_ws RX0 TX0 9, w ∈ wsX0_wireOf := fun _ h => List.mem_cons_of_mem _ (List.mem_append_right _ h)
abbrev rm_X0_wireOf : Room := { frames := 0, cells := 0, slots := 0, locals := 0 }
noncomputable def f_X0_wireOf (N : Nat) (σ : Wd) (a0 : Int32) : Option (Int32) :=
  if a0 < 0 then (
    some (-1))
  else (
    if 20 ≤ a0 then (
      some (-1))
    else (
      rI σ 6 20 a0 fun v1 =>
      some v1))
set_option maxHeartbeats 4000000 in
set_option maxRecDepth 100000 in
theorem c_X0_wireOf {l : Launch} {D : va_G} {cy : Nat → ClassId} {h : Nat → Nat} {N : Nat} {σ : Wd} {a0 : Int32} {r : Int32} (hW : WF (wsC cy h) (adC h)) (hr : f_X0_wireOf N σ a0 = some r) : Con l D cy (wsC cy h) (adC h) yX0_wireOf wsX0_wireOf rm_X0_wireOf 0 0 [.ref (h 5), .int a0] (some (.int r)) σ σ := by
  refine Con.of (ρ := Int32) (lv0 := [(0, .ref (h 5)), (1, .int a0)]) (σ := σ) (fun r : Int32 => some (.int r)) (fun _ => σ) (by decide) rfl rfl (Nat.le_of_ble_eq_true rfl) rfl hW hr (fun p e s m args below meth c E => ?_)
  unfold f_X0_wireOf
  refine G.iload_n E dX0_wireOf_0 1 rfl rfl ?_
  refine G.if_lt (tgt := 22) E dX0_wireOf_1 (by decide) ?_ ?_
  · refine G.iconst (v := (-1)) E dX0_wireOf_22 (by decide) ?_
    exact G.iret E dX0_wireOf_23 rfl rfl
  · refine G.iload_n E dX0_wireOf_4 1 rfl rfl ?_
    refine G.aload_n E dX0_wireOf_5 0 rfl rfl ?_
    refine G.getR (T := TX0) (N := 9) (C := RX0) (q0 := 5) (i := 1) E dX0_wireOf_6 iw_X0_wireOf_0 (wsC_at5 _ _ _) rfl (by decide) rfl (List.mem_of_getElem? (i := 1) rfl) ?_
    refine G.alen (q0 := 6) (t0 := 0) (v := 20) E dX0_wireOf_9 (wsC_at6 _ _ _) rfl rfl ?_
    refine G.icmp_ge (tgt := 22) E dX0_wireOf_10 (by decide) ?_ ?_
    · refine G.iconst (v := (-1)) E dX0_wireOf_22 (by decide) ?_
      exact G.iret E dX0_wireOf_23 rfl rfl
    · refine G.aload_n E dX0_wireOf_13 0 rfl rfl ?_
      refine G.getR (T := TX0) (N := 9) (C := RX0) (q0 := 5) (i := 1) E dX0_wireOf_14 iw_X0_wireOf_0 (wsC_at5 _ _ _) rfl (by decide) rfl (List.mem_of_getElem? (i := 1) rfl) ?_
      refine G.iload_n E dX0_wireOf_17 1 rfl rfl ?_
      refine G.iald (q0 := 6) E dX0_wireOf_18 (wsC_at6 _ _ _) (fun v1 => ?_)
      refine G.goto (tgt := 23) E dX0_wireOf_19 (by decide) ?_
      exact G.iret E dX0_wireOf_23 rfl rfl
set_option maxHeartbeats 4000000 in
set_option maxRecDepth 100000 in
theorem iw_X4_conductanceOf_4 : ∀ w ∈ u_ws RX4 TX4 8, w ∈ wsX4_conductanceOf := fun _ h => List.mem_cons_of_mem _ (List.mem_append_right _ h)
abbrev rm_X4_conductanceOf : Room := { frames := 0, cells := 0, slots := 0, locals := 0 }
noncomputable def f_X4_conductanceOf (N : Nat) (σ : Wd) (a0 : Int32) : Option (Int32) :=
  if a0 < 0 then (
    some 0)
  else (
    if 20 ≤ a0 then (
      some 0)
    else (
      rI σ 4 20 a0 fun v1 =>
      some v1))
set_option maxHeartbeats 4000000 in
set_option maxRecDepth 100000 in
theorem c_X4_conductanceOf {l : Launch} {D : va_G} {cy : Nat → ClassId} {h : Nat → Nat} {N : Nat} {σ : Wd} {a0 : Int32} {r : Int32} (hW : WF (wsC cy h) (adC h)) (hr : f_X4_conductanceOf N σ a0 = some r) : Con l D cy (wsC cy h) (adC h) yX4_conductanceOf wsX4_conductanceOf rm_X4_conductanceOf 0 0 [.ref (h 1), .int a0] (some (.int r)) σ σ := by
  refine Con.of (ρ := Int32) (lv0 := [(0, .ref (h 1)), (1, .int a0)]) (σ := σ) (fun r : Int32 => some (.int r)) (fun _ => σ) (by decide) rfl rfl (Nat.le_of_ble_eq_true rfl) rfl hW hr (fun p e s m args below meth c E => ?_)
  unfold f_X4_conductanceOf
  refine G.iload_n E dX4_conductanceOf_0 1 rfl rfl ?_
  refine G.if_lt (tgt := 19) E dX4_conductanceOf_1 (by decide) ?_ ?_
  · refine G.iconst (v := 0) E dX4_conductanceOf_19 (by decide) ?_
    exact G.iret E dX4_conductanceOf_20 rfl rfl
  · refine G.iload_n E dX4_conductanceOf_4 1 rfl rfl ?_
    refine G.bipush (v := 20) E dX4_conductanceOf_5 (by decide) ?_
    refine G.icmp_ge (tgt := 19) E dX4_conductanceOf_7 (by decide) ?_ ?_
    · refine G.iconst (v := 0) E dX4_conductanceOf_19 (by decide) ?_
      exact G.iret E dX4_conductanceOf_20 rfl rfl
    · refine G.aload_n E dX4_conductanceOf_10 0 rfl rfl ?_
      refine G.getR (T := TX4) (N := 8) (C := RX4) (q0 := 1) (i := 7) E dX4_conductanceOf_11 iw_X4_conductanceOf_4 (wsC_at1 _ _ _) rfl (by decide) rfl (List.mem_of_getElem? (i := 1) rfl) ?_
      refine G.iload_n E dX4_conductanceOf_14 1 rfl rfl ?_
      refine G.iald (q0 := 4) E dX4_conductanceOf_15 (wsC_at4 _ _ _) (fun v1 => ?_)
      refine G.goto (tgt := 20) E dX4_conductanceOf_16 (by decide) ?_
      exact G.iret E dX4_conductanceOf_20 rfl rfl
set_option maxHeartbeats 4000000 in
set_option maxRecDepth 100000 in
theorem iw_X0_weigh_0 : ∀ w ∈ u_ws RX0 TX0 9, w ∈ wsX0_weigh := fun _ h => List.mem_cons_of_mem _ (List.mem_append_left _ (List.mem_append_right _ h))
abbrev rm_X0_weigh (d : Nat) : Room := { frames := 2 + d, cells := 0, slots := 0, locals := 49 + 26 * d }
noncomputable def fl_X0_weigh_34 {ρ : Type} (N : Nat) (rec : Wd → Int32 → Int32 → Option (Int64 × Wd)) (x1 : Int32) (x2 : Int32) (K : Int64 → Wd → Option ρ) : Nat → Int64 → Int32 → Wd → Option ρ
  | 0, _, _, _ => none
  | n + 1, x3, x5, s0 =>
    if x2 ≤ x5 then (
      K x3 s0)
    else (
      bP (f_X0_wireOf N s0 x5) fun v4 =>
      bS (f_X0_canTake N s0 v4 x1) fun v5 s6 =>
      jn (fun (v7 : Int64) (s8 : Wd) => ((
        fl_X0_weigh_34 N rec x1 x2 K n v7 (x5 + 1) s8) : Option (ρ))) fun j81 =>
      if v5 = 0 then (
        j81 x3 s6)
      else (
        bP (f_X4_conductanceOf N s6 v4) fun v9 =>
        bS (rec s6 (x1 + 1) x5) fun v10 s11 =>
        lL (x3 + ((Int32.toInt64 v9) * v10)) fun v12 =>
        j81 v12 s11))
set_option maxHeartbeats 4000000 in
set_option maxRecDepth 100000 in
theorem gl_X0_weigh_34 {d : Nat} {ρ : Type} {Q : ρ → State → Prop} {N : Nat} {rec : Wd → Int32 → Int32 → Option (Int64 × Wd)} {x1 : Int32} {x2 : Int32} {K : Int64 → Wd → Option ρ} (E : EV p s m args meth c cX0_weigh 7 RX0 wsX0_weigh (some .long) D cy (wsC cy h) (adC h)) (hrec : ∀ (σ : Wd) (a1 : Int32) (a2 : Int32) (r : Int64 × Wd), rec σ a1 a2 = some r → Con l D cy (wsC cy h) (adC h) yX0_weigh wsX0_weigh (rm_X0_weigh d) 0 0 [.ref (h 5), .int a1, .int a2] ((fun r : Int64 × Wd => some (.long r.1)) r) σ ((fun r => r.2) r)) (hK : ∀ (x3' : Int64) (s' : Wd), G p l e (headSpec wsX0_weigh (rm_X0_weigh (d + 1))).room s m args below meth c 7 0 0 D (wsC cy h) (adC h) Q 87 [(3, .long (x3'))] [] s' (K x3' s')) :
  ∀ (n : Nat) (x3 : Int64) (x5 : Int32) (s0 : Wd), G p l e (headSpec wsX0_weigh (rm_X0_weigh (d + 1))).room s m args below meth c 7 0 0 D (wsC cy h) (adC h) Q 34 [(0, .ref (h 5)), (1, .int x1), (2, .int x2), (3, .long x3), (5, .int x5)] [] s0 (fl_X0_weigh_34 N rec x1 x2 K n x3 x5 s0) := by
  intro n
  induction n with
  | zero => intros; exact G.no
  | succ n ih =>
    intro x3 x5 s0
    rw [fl_X0_weigh_34]
    refine G.iload E dX0_weigh_34 4 rfl ?_
    refine G.iload_n E dX0_weigh_36 2 rfl rfl ?_
    refine G.icmp_ge (tgt := 87) E dX0_weigh_37 (by decide) ?_ ?_
    · refine G.loc [3] rfl ?_
      exact hK x3 s0
    · refine G.aload_n E dX0_weigh_40 0 rfl rfl ?_
      refine G.iload E dX0_weigh_41 4 rfl ?_
      refine G.callVi (n := 1) (T := TX0) (N := 9) (C := RX0) (a := h 5) (q0 := 5) (As := [.int x5]) E dX0_weigh_43 (fun _ hv => c_X0_wireOf E.wf hv) gX0_weigh_X0_wireOf rfl rfl rfl (by decide +kernel) ⟨by simp only [headSpec, rm_X0_weigh, rm_X0_wireOf]; omega, by simp only [headSpec, rm_X0_weigh, rm_X0_wireOf]; omega⟩ (wsC_at5 _ _ _) rfl rfl (Nat.le_of_ble_eq_true rfl) ⟨Nat.le_of_ble_eq_true rfl, Nat.le_of_ble_eq_true rfl⟩ (fun v4 => ?_)
      refine G.istore (lv' := [(6, .int v4), (0, .ref (h 5)), (1, .int x1), (2, .int x2), (3, .long x3), (5, .int x5)]) E dX0_weigh_46 (by decide) rfl ?_
      refine G.aload_n E dX0_weigh_48 1 rfl rfl ?_
      refine G.iload E dX0_weigh_49 0 rfl ?_
      refine G.iload_n E dX0_weigh_51 2 rfl rfl ?_
      refine G.callVis (n := 2) (T := TX0) (N := 9) (C := RX0) (a := h 5) (q0 := 5) (As := [.int v4, .int x1]) E dX0_weigh_52 (fun _ _ hv => c_X0_canTake E.wf hv) gX0_weigh_X0_canTake rfl rfl rfl (by decide +kernel) ⟨by simp only [headSpec, rm_X0_weigh, rm_X0_canTake]; omega, by simp only [headSpec, rm_X0_weigh, rm_X0_canTake]; omega⟩ (wsC_at5 _ _ _) rfl rfl (Nat.le_of_ble_eq_true rfl) ⟨Nat.le_of_ble_eq_true rfl, Nat.le_of_ble_eq_true rfl⟩ (fun v5 s6 => ?_)
      refine G.jn (P := fun j => ∀ (v7 : Int64) (s8 : Wd), G p l e (headSpec wsX0_weigh (rm_X0_weigh (d + 1))).room s m args below meth c 7 0 0 D (wsC cy h) (adC h) Q 81 [(0, .ref (h 5)), (1, .int x1), (2, .int x2), (3, .long v7), (5, .int x5)] [] s8 (j v7 s8)) ?_ (fun j81 hj81 => ?_)
      · intro v7 s8
        refine G.iinc (v := x5 + 1) (lv' := [(5, .int (x5 + 1)), (0, .ref (h 5)), (1, .int x1), (2, .int x2), (3, .long v7)]) E dX0_weigh_81 4 rfl rfl (by decide) rfl ?_
        refine G.goto (tgt := 34) E dX0_weigh_84 (by decide) ?_
        refine G.loc [1, 2, 3, 4, 0] rfl ?_
        exact ih v7 (x5 + 1) s8
      · refine G.if_eq (tgt := 81) E dX0_weigh_55 (by decide) ?_ ?_
        · refine G.loc [1, 2, 3, 4, 5] rfl ?_
          exact hj81 x3 s6
        · refine G.lload_n E dX0_weigh_58 4 rfl rfl ?_
          refine G.aload_n E dX0_weigh_59 1 rfl rfl ?_
          refine G.getR (T := TX0) (N := 9) (C := RX0) (q0 := 5) (i := 0) E dX0_weigh_60 iw_X0_weigh_0 (wsC_at5 _ _ _) rfl (by decide) rfl (List.mem_of_getElem? (i := 2) rfl) ?_
          refine G.iload E dX0_weigh_63 0 rfl ?_
          refine G.callVi (n := 1) (T := TX4) (N := 8) (C := RX4) (a := h 1) (q0 := 1) (As := [.int v4]) E dX0_weigh_65 (fun _ hv => c_X4_conductanceOf E.wf hv) gX0_weigh_X4_conductanceOf rfl rfl rfl (by decide +kernel) ⟨by simp only [headSpec, rm_X0_weigh, rm_X4_conductanceOf]; omega, by simp only [headSpec, rm_X0_weigh, rm_X4_conductanceOf]; omega⟩ (wsC_at1 _ _ _) rfl rfl (Nat.le_of_ble_eq_true rfl) ⟨Nat.le_of_ble_eq_true rfl, Nat.le_of_ble_eq_true rfl⟩ (fun v9 => ?_)
          refine G.i2l E dX0_weigh_68 ?_
          refine G.aload_n E dX0_weigh_69 1 rfl rfl ?_
          refine G.iload_n E dX0_weigh_70 2 rfl rfl ?_
          refine G.iconst (v := 1) E dX0_weigh_71 (by decide) ?_
          refine G.iadd E dX0_weigh_72 ?_
          refine G.iload E dX0_weigh_73 5 rfl ?_
          refine G.callSls (n := 3) (As := [.ref (h 5), .int (x1 + 1), .int x5]) E dX0_weigh_75 (fun _ _ hv => hrec _ _ _ _ hv) gX0_weigh_X0_weigh rfl rfl rfl (by decide +kernel) ⟨by simp only [headSpec, rm_X0_weigh]; omega, by simp only [headSpec, rm_X0_weigh]; omega⟩ rfl (Nat.le_of_ble_eq_true rfl) ⟨Nat.le_of_ble_eq_true rfl, Nat.le_of_ble_eq_true rfl⟩ (fun v10 s11 => ?_)
          refine G.lmul E dX0_weigh_78 ?_
          refine G.ladd E dX0_weigh_79 ?_
          refine G.letL (fun v12 => ?_)
          refine G.lstore_n (lv' := [(3, .long v12), (6, .int v4), (0, .ref (h 5)), (1, .int x1), (2, .int x2), (5, .int x5)]) E dX0_weigh_80 rfl (by decide) rfl ?_
          refine G.loc [2, 3, 4, 0, 5] rfl ?_
          exact hj81 v12 s11
noncomputable def f_X0_weigh (N : Nat) : Nat → Wd → Int32 → Int32 → Option (Int64 × Wd)
  | 0, _, _, _ => none
  | d + 1, σ, a1, a2 =>
    gI σ 5 5 fun v1 =>
    if a1 < v1 then (
      gI σ 5 5 fun v2 =>
      lI ((v2 - a1) - 1) fun v3 =>
      fl_X0_weigh_34 N (f_X0_weigh N d) a1 a2 (fun v13 s14 =>
        some (v13, s14)) N 0 v3 σ)
    else (
      bP (f_X0_areTogether N σ a1) fun v15 =>
      if v15 = 0 then (
        some (0, σ))
      else (
        some (1, σ)))
set_option maxHeartbeats 4000000 in
set_option maxRecDepth 100000 in
theorem c_X0_weigh_d {l : Launch} {D : va_G} {cy : Nat → ClassId} {h : Nat → Nat} {N : Nat} (hW : WF (wsC cy h) (adC h)) : ∀ (d : Nat), ∀ (σ : Wd) (a1 : Int32) (a2 : Int32) (r : Int64 × Wd), f_X0_weigh N d σ a1 a2 = some r → Con l D cy (wsC cy h) (adC h) yX0_weigh wsX0_weigh (rm_X0_weigh d) 0 0 [.ref (h 5), .int a1, .int a2] ((fun r : Int64 × Wd => some (.long r.1)) r) σ ((fun r => r.2) r) := by
  intro d
  induction d with
  | zero => intros; rename_i hr; exact nomatch hr
  | succ d hrec =>
    intro σ a1 a2 r hr
    rw [f_X0_weigh] at hr
    refine Con.of (lv0 := [(0, .ref (h 5)), (1, .int a1), (2, .int a2)]) (fun r : Int64 × Wd => some (.long r.1)) (fun r => r.2) (by decide) rfl rfl (Nat.le_of_ble_eq_true rfl) rfl hW hr (fun p e s m args below meth c E => ?_)
    refine G.iload_n E dX0_weigh_0 1 rfl rfl ?_
    refine G.aload_n E dX0_weigh_1 0 rfl rfl ?_
    refine G.getI (T := TX0) (N := 9) (C := RX0) (q0 := 5) (i := 5) E dX0_weigh_2 iw_X0_weigh_0 (wsC_at5 _ _ _) rfl (by decide) rfl (List.mem_of_getElem? (i := 1) rfl) (fun v1 => ?_)
    refine G.icmp_lt (tgt := 22) E dX0_weigh_5 (by decide) ?_ ?_
    · refine G.lconst (v := 0) E dX0_weigh_22 (by decide) ?_
      refine G.lstore_n (lv' := [(3, .long 0), (0, .ref (h 5)), (1, .int a1), (2, .int a2)]) E dX0_weigh_23 rfl (by decide) rfl ?_
      refine G.aload_n E dX0_weigh_24 1 rfl rfl ?_
      refine G.getI (T := TX0) (N := 9) (C := RX0) (q0 := 5) (i := 5) E dX0_weigh_25 iw_X0_weigh_0 (wsC_at5 _ _ _) rfl (by decide) rfl (List.mem_of_getElem? (i := 1) rfl) (fun v2 => ?_)
      refine G.iload_n E dX0_weigh_28 2 rfl rfl ?_
      refine G.isub E dX0_weigh_29 ?_
      refine G.iconst (v := 1) E dX0_weigh_30 (by decide) ?_
      refine G.isub E dX0_weigh_31 ?_
      refine G.letI (fun v3 => ?_)
      refine G.istore (lv' := [(5, .int v3), (3, .long 0), (0, .ref (h 5)), (1, .int a1), (2, .int a2)]) E dX0_weigh_32 (by decide) rfl ?_
      refine G.loc [2, 3, 4, 1, 0] rfl ?_
      refine gl_X0_weigh_34 E hrec (fun v13 s14 => ?_) N _ _ _
      refine G.lload_n E dX0_weigh_87 0 rfl rfl ?_
      exact G.lret E dX0_weigh_88 rfl rfl
    · refine G.aload_n E dX0_weigh_8 0 rfl rfl ?_
      refine G.iload_n E dX0_weigh_9 1 rfl rfl ?_
      refine G.callVi (n := 1) (T := TX0) (N := 9) (C := RX0) (a := h 5) (q0 := 5) (As := [.int a1]) E dX0_weigh_10 (fun _ hv => c_X0_areTogether E.wf hv) gX0_weigh_X0_areTogether rfl rfl rfl (by decide +kernel) ⟨by simp only [headSpec, rm_X0_weigh, rm_X0_areTogether]; omega, by simp only [headSpec, rm_X0_weigh, rm_X0_areTogether]; omega⟩ (wsC_at5 _ _ _) rfl rfl (Nat.le_of_ble_eq_true rfl) ⟨Nat.le_of_ble_eq_true rfl, Nat.le_of_ble_eq_true rfl⟩ (fun v15 => ?_)
      refine G.if_eq (tgt := 20) E dX0_weigh_13 (by decide) ?_ ?_
      · refine G.lconst (v := 0) E dX0_weigh_20 (by decide) ?_
        exact G.lret E dX0_weigh_21 rfl rfl
      · refine G.lconst (v := 1) E dX0_weigh_16 (by decide) ?_
        refine G.goto (tgt := 21) E dX0_weigh_17 (by decide) ?_
        exact G.lret E dX0_weigh_21 rfl rfl
set_option maxHeartbeats 4000000 in
set_option maxRecDepth 100000 in
theorem c_X0_weigh {l : Launch} {D : va_G} {cy : Nat → ClassId} {h : Nat → Nat} {N : Nat} {σ : Wd} {a1 : Int32} {a2 : Int32} {r : Int64} {σ1 : Wd} (hW : WF (wsC cy h) (adC h)) (hr : f_X0_weigh N 10 σ a1 a2 = some (r, σ1)) : Con l D cy (wsC cy h) (adC h) yX0_weigh wsX0_weigh (rm_X0_weigh 10) 0 0 [.ref (h 5), .int a1, .int a2] (some (.long r)) σ σ1 := c_X0_weigh_d hW 10 _ _ _ _ hr
set_option maxHeartbeats 4000000 in
set_option maxRecDepth 100000 in
theorem iw_X0_countWith_0 : ∀ w ∈ u_ws RX0 TX0 9, w ∈ wsX0_countWith := fun _ h => List.mem_cons_of_mem _ (List.mem_append_left _ (List.mem_append_right _ h))
abbrev rm_X0_countWith : Room := { frames := 13, cells := 0, slots := 0, locals := 335 }
noncomputable def f_X0_countWith (N : Nat) (σ : Wd) (a0 : Int32) (a1 : Int32) (a2 : Int32) : Option (Int64 × Wd) :=
  bP (f_X0_begin N σ a0) fun s1 =>
  wI s1 5 6 a1 fun s2 =>
  wI s2 5 7 a2 fun s3 =>
  gI s3 5 4 fun v4 =>
  bS (f_X0_weigh N 10 s3 0 v4) fun v5 s6 =>
  some (v5, s6)
set_option maxHeartbeats 4000000 in
set_option maxRecDepth 100000 in
theorem c_X0_countWith {l : Launch} {D : va_G} {cy : Nat → ClassId} {h : Nat → Nat} {N : Nat} {σ : Wd} {a0 : Int32} {a1 : Int32} {a2 : Int32} {r : Int64} {σ1 : Wd} (hW : WF (wsC cy h) (adC h)) (hr : f_X0_countWith N σ a0 a1 a2 = some (r, σ1)) : Con l D cy (wsC cy h) (adC h) yX0_countWith wsX0_countWith rm_X0_countWith 0 0 [.ref (h 5), .int a0, .int a1, .int a2] (some (.long r)) σ σ1 := by
  refine Con.of (ρ := Int64 × Wd) (lv0 := [(0, .ref (h 5)), (1, .int a0), (2, .int a1), (3, .int a2)]) (σ := σ) (fun r : Int64 × Wd => some (.long r.1)) (fun r => r.2) (by decide) rfl rfl (Nat.le_of_ble_eq_true rfl) rfl hW hr (fun p e s m args below meth c E => ?_)
  unfold f_X0_countWith
  refine G.aload_n E dX0_countWith_0 0 rfl rfl ?_
  refine G.iload_n E dX0_countWith_1 1 rfl rfl ?_
  refine G.callVv (n := 1) (T := TX0) (N := 9) (C := RX0) (a := h 5) (q0 := 5) (As := [.int a0]) E dX0_countWith_2 (fun _ hv => c_X0_begin E.wf hv) gX0_countWith_X0_begin rfl rfl rfl (by decide +kernel) ⟨Nat.le_of_ble_eq_true rfl, Nat.le_of_ble_eq_true rfl⟩ (wsC_at5 _ _ _) rfl rfl (Nat.le_of_ble_eq_true rfl) ⟨Nat.le_of_ble_eq_true rfl, Nat.le_of_ble_eq_true rfl⟩ (fun s1 => ?_)
  refine G.aload_n E dX0_countWith_5 0 rfl rfl ?_
  refine G.iload_n E dX0_countWith_6 2 rfl rfl ?_
  refine G.putI (T := TX0) (N := 9) (C := RX0) (q0 := 5) (i := 6) (ty := .int) E dX0_countWith_7 iw_X0_countWith_0 tyX0 tyX0_ok nmX0 (wsC_at5 _ _ _) rfl (by decide) (List.mem_of_getElem? (i := 1) rfl) rfl (by decide +kernel) rfl rfl (Nat.le_of_ble_eq_true rfl) (wsC_set5_6 _ _ _ _) (fun s2 => ?_)
  refine G.aload_n E dX0_countWith_10 0 rfl rfl ?_
  refine G.iload_n E dX0_countWith_11 3 rfl rfl ?_
  refine G.putI (T := TX0) (N := 9) (C := RX0) (q0 := 5) (i := 7) (ty := .int) E dX0_countWith_12 iw_X0_countWith_0 tyX0 tyX0_ok nmX0 (wsC_at5 _ _ _) rfl (by decide) (List.mem_of_getElem? (i := 2) rfl) rfl (by decide +kernel) rfl rfl (Nat.le_of_ble_eq_true rfl) (wsC_set5_7 _ _ _ _) (fun s3 => ?_)
  refine G.aload_n E dX0_countWith_15 0 rfl rfl ?_
  refine G.iconst (v := 0) E dX0_countWith_16 (by decide) ?_
  refine G.aload_n E dX0_countWith_17 0 rfl rfl ?_
  refine G.getI (T := TX0) (N := 9) (C := RX0) (q0 := 5) (i := 4) E dX0_countWith_18 iw_X0_countWith_0 (wsC_at5 _ _ _) rfl (by decide) rfl (List.mem_of_getElem? (i := 3) rfl) (fun v4 => ?_)
  refine G.callSls (n := 3) (As := [.ref (h 5), .int 0, .int v4]) E dX0_countWith_21 (fun _ _ hv => c_X0_weigh E.wf hv) gX0_countWith_X0_weigh rfl rfl rfl (by decide +kernel) ⟨Nat.le_of_ble_eq_true rfl, Nat.le_of_ble_eq_true rfl⟩ rfl (Nat.le_of_ble_eq_true rfl) ⟨Nat.le_of_ble_eq_true rfl, Nat.le_of_ble_eq_true rfl⟩ (fun v5 s6 => ?_)
  exact G.lret E dX0_countWith_24 rfl rfl
abbrev rm_X0_count : Room := { frames := 14, cells := 0, slots := 0, locals := 358 }
noncomputable def f_X0_count (N : Nat) (σ : Wd) (a0 : Int32) : Option (Int64 × Wd) :=
  bS (f_X0_countWith N σ a0 0 0) fun v1 s2 =>
  some (v1, s2)
set_option maxHeartbeats 4000000 in
set_option maxRecDepth 100000 in
theorem c_X0_count {l : Launch} {D : va_G} {cy : Nat → ClassId} {h : Nat → Nat} {N : Nat} {σ : Wd} {a0 : Int32} {r : Int64} {σ1 : Wd} (hW : WF (wsC cy h) (adC h)) (hr : f_X0_count N σ a0 = some (r, σ1)) : Con l D cy (wsC cy h) (adC h) yX0_count wsX0_count rm_X0_count 0 0 [.ref (h 5), .int a0] (some (.long r)) σ σ1 := by
  refine Con.of (ρ := Int64 × Wd) (lv0 := [(0, .ref (h 5)), (1, .int a0)]) (σ := σ) (fun r : Int64 × Wd => some (.long r.1)) (fun r => r.2) (by decide) rfl rfl (Nat.le_of_ble_eq_true rfl) rfl hW hr (fun p e s m args below meth c E => ?_)
  unfold f_X0_count
  refine G.aload_n E dX0_count_0 0 rfl rfl ?_
  refine G.iload_n E dX0_count_1 1 rfl rfl ?_
  refine G.iconst (v := 0) E dX0_count_2 (by decide) ?_
  refine G.iconst (v := 0) E dX0_count_3 (by decide) ?_
  refine G.callVls (n := 3) (T := TX0) (N := 9) (C := RX0) (a := h 5) (q0 := 5) (As := [.int a0, .int 0, .int 0]) E dX0_count_4 (fun _ _ hv => c_X0_countWith E.wf hv) gX0_count_X0_countWith rfl rfl rfl (by decide +kernel) ⟨Nat.le_of_ble_eq_true rfl, Nat.le_of_ble_eq_true rfl⟩ (wsC_at5 _ _ _) rfl rfl (Nat.le_of_ble_eq_true rfl) ⟨Nat.le_of_ble_eq_true rfl, Nat.le_of_ble_eq_true rfl⟩ (fun v1 s2 => ?_)
  exact G.lret E dX0_count_7 rfl rfl
set_option maxHeartbeats 4000000 in
set_option maxRecDepth 100000 in
theorem iw_X0_find_0 : ∀ w ∈ u_ws RX0 TX0 9, w ∈ wsX0_find := fun _ h => List.mem_cons_of_mem _ (List.mem_append_left _ (List.mem_append_right _ h))
abbrev rm_X0_find (d : Nat) : Room := { frames := 2 + d, cells := 0, slots := 0, locals := 49 + 25 * d }
noncomputable def fl_X0_find_40 (N : Nat) (rec : Wd → Int32 → Int32 → Option (Int32 × Wd)) (x1 : Int32) (x2 : Int32) (K : Wd → Option (Int32 × Wd)) : Nat → Int32 → Wd → Option (Int32 × Wd)
  | 0, _, _ => none
  | n + 1, x3, s0 =>
    if x2 ≤ x3 then (
      K s0)
    else (
      bP (f_X0_wireOf N s0 x3) fun v4 =>
      bS (f_X0_canTake N s0 v4 x1) fun v5 s6 =>
      jn (fun (s7 : Wd) => ((
        fl_X0_find_40 N rec x1 x2 K n (x3 + 1) s7) : Option (Int32 × Wd))) fun j87 =>
      if v5 = 0 then (
        j87 s6)
      else (
        bS (rec s6 (x1 + 1) x3) fun v8 s9 =>
        if v8 = (-1) then (
          j87 s9)
        else (
          bP (f_X7_setOf N v4) fun v10 =>
          some (v8 ||| v10, s9))))
set_option maxHeartbeats 4000000 in
set_option maxRecDepth 100000 in
theorem gl_X0_find_40 {d : Nat} {N : Nat} {rec : Wd → Int32 → Int32 → Option (Int32 × Wd)} {x1 : Int32} {x2 : Int32} {K : Wd → Option (Int32 × Wd)} (E : EV p s m args meth c cX0_find 6 RX0 wsX0_find (some .int) D cy (wsC cy h) (adC h)) (hrec : ∀ (σ : Wd) (a1 : Int32) (a2 : Int32) (r : Int32 × Wd), rec σ a1 a2 = some r → Con l D cy (wsC cy h) (adC h) yX0_find wsX0_find (rm_X0_find d) 0 0 [.ref (h 5), .int a1, .int a2] ((fun r : Int32 × Wd => some (.int r.1)) r) σ ((fun r => r.2) r)) (hK : ∀ (s' : Wd), G p l e (headSpec wsX0_find (rm_X0_find (d + 1))).room s m args below meth c 6 0 0 D (wsC cy h) (adC h) (QM D (wsC cy h) (adC h) below args s 0 0 (fun r : Int32 × Wd => some (.int r.1)) (fun r => r.2)) 93 [] [] s' (K s')) :
  ∀ (n : Nat) (x3 : Int32) (s0 : Wd), G p l e (headSpec wsX0_find (rm_X0_find (d + 1))).room s m args below meth c 6 0 0 D (wsC cy h) (adC h) (QM D (wsC cy h) (adC h) below args s 0 0 (fun r : Int32 × Wd => some (.int r.1)) (fun r => r.2)) 40 [(0, .ref (h 5)), (1, .int x1), (2, .int x2), (3, .int x3)] [] s0 (fl_X0_find_40 N rec x1 x2 K n x3 s0) := by
  intro n
  induction n with
  | zero => intros; exact G.no
  | succ n ih =>
    intro x3 s0
    rw [fl_X0_find_40]
    refine G.iload_n E dX0_find_40 3 rfl rfl ?_
    refine G.iload_n E dX0_find_41 2 rfl rfl ?_
    refine G.icmp_ge (tgt := 93) E dX0_find_42 (by decide) ?_ ?_
    · refine G.loc [] rfl ?_
      exact hK s0
    · refine G.aload_n E dX0_find_45 0 rfl rfl ?_
      refine G.iload_n E dX0_find_46 3 rfl rfl ?_
      refine G.callVi (n := 1) (T := TX0) (N := 9) (C := RX0) (a := h 5) (q0 := 5) (As := [.int x3]) E dX0_find_47 (fun _ hv => c_X0_wireOf E.wf hv) gX0_find_X0_wireOf rfl rfl rfl (by decide +kernel) ⟨by simp only [headSpec, rm_X0_find, rm_X0_wireOf]; omega, by simp only [headSpec, rm_X0_find, rm_X0_wireOf]; omega⟩ (wsC_at5 _ _ _) rfl rfl (Nat.le_of_ble_eq_true rfl) ⟨Nat.le_of_ble_eq_true rfl, Nat.le_of_ble_eq_true rfl⟩ (fun v4 => ?_)
      refine G.istore (lv' := [(4, .int v4), (0, .ref (h 5)), (1, .int x1), (2, .int x2), (3, .int x3)]) E dX0_find_50 (by decide) rfl ?_
      refine G.aload_n E dX0_find_52 1 rfl rfl ?_
      refine G.iload E dX0_find_53 0 rfl ?_
      refine G.iload_n E dX0_find_55 2 rfl rfl ?_
      refine G.callVis (n := 2) (T := TX0) (N := 9) (C := RX0) (a := h 5) (q0 := 5) (As := [.int v4, .int x1]) E dX0_find_56 (fun _ _ hv => c_X0_canTake E.wf hv) gX0_find_X0_canTake rfl rfl rfl (by decide +kernel) ⟨by simp only [headSpec, rm_X0_find, rm_X0_canTake]; omega, by simp only [headSpec, rm_X0_find, rm_X0_canTake]; omega⟩ (wsC_at5 _ _ _) rfl rfl (Nat.le_of_ble_eq_true rfl) ⟨Nat.le_of_ble_eq_true rfl, Nat.le_of_ble_eq_true rfl⟩ (fun v5 s6 => ?_)
      refine G.jn (P := fun j => ∀ (s7 : Wd), G p l e (headSpec wsX0_find (rm_X0_find (d + 1))).room s m args below meth c 6 0 0 D (wsC cy h) (adC h) (QM D (wsC cy h) (adC h) below args s 0 0 (fun r : Int32 × Wd => some (.int r.1)) (fun r => r.2)) 87 [(0, .ref (h 5)), (1, .int x1), (2, .int x2), (3, .int x3)] [] s7 (j s7)) ?_ (fun j87 hj87 => ?_)
      · intro s7
        refine G.iinc (v := x3 + 1) (lv' := [(3, .int (x3 + 1)), (0, .ref (h 5)), (1, .int x1), (2, .int x2)]) E dX0_find_87 3 rfl rfl (by decide) rfl ?_
        refine G.goto (tgt := 40) E dX0_find_90 (by decide) ?_
        refine G.loc [1, 2, 3, 0] rfl ?_
        exact ih (x3 + 1) s7
      · refine G.if_eq (tgt := 87) E dX0_find_59 (by decide) ?_ ?_
        · refine G.loc [1, 2, 3, 4] rfl ?_
          exact hj87 s6
        · refine G.aload_n E dX0_find_62 1 rfl rfl ?_
          refine G.iload_n E dX0_find_63 2 rfl rfl ?_
          refine G.iconst (v := 1) E dX0_find_64 (by decide) ?_
          refine G.iadd E dX0_find_65 ?_
          refine G.iload_n E dX0_find_66 4 rfl rfl ?_
          refine G.callSis (n := 3) (As := [.ref (h 5), .int (x1 + 1), .int x3]) E dX0_find_67 (fun _ _ hv => hrec _ _ _ _ hv) gX0_find_X0_find rfl rfl rfl (by decide +kernel) ⟨by simp only [headSpec, rm_X0_find]; omega, by simp only [headSpec, rm_X0_find]; omega⟩ rfl (Nat.le_of_ble_eq_true rfl) ⟨Nat.le_of_ble_eq_true rfl, Nat.le_of_ble_eq_true rfl⟩ (fun v8 s9 => ?_)
          refine G.istore (lv' := [(5, .int v8), (4, .int v4), (0, .ref (h 5)), (1, .int x1), (2, .int x2), (3, .int x3)]) E dX0_find_70 (by decide) rfl ?_
          refine G.iload E dX0_find_72 0 rfl ?_
          refine G.iconst (v := (-1)) E dX0_find_74 (by decide) ?_
          refine G.icmp_eq (tgt := 87) E dX0_find_75 (by decide) ?_ ?_
          · refine G.loc [2, 3, 4, 5] rfl ?_
            exact hj87 s9
          · refine G.iload E dX0_find_78 0 rfl ?_
            refine G.iload E dX0_find_80 1 rfl ?_
            refine G.callNi (n := 1) (As := [.int v4]) E dX0_find_82 (fun _ hv => c_X7_setOf E.wf hv) gX0_find_X7_setOf_n52 (List.mem_of_getElem? (i := 1) rfl) (List.mem_of_getElem? (i := 32) rfl) (List.mem_of_getElem? (i := 43) rfl) rfl rfl rfl (by decide +kernel) ⟨by simp only [headSpec, rm_X0_find, rm_X7_setOf]; omega, by simp only [headSpec, rm_X0_find, rm_X7_setOf]; omega⟩ rfl (Nat.le_of_ble_eq_true rfl) ⟨Nat.le_of_ble_eq_true rfl, Nat.le_of_ble_eq_true rfl⟩ (fun v10 => ?_)
            refine G.ior E dX0_find_85 ?_
            exact G.iret E dX0_find_86 rfl rfl
noncomputable def f_X0_find (N : Nat) : Nat → Wd → Int32 → Int32 → Option (Int32 × Wd)
  | 0, _, _, _ => none
  | d + 1, σ, a1, a2 =>
    gI σ 5 5 fun v1 =>
    if a1 < v1 then (
      gI σ 5 5 fun v2 =>
      lI ((v2 - a1) - 1) fun v3 =>
      fl_X0_find_40 N (f_X0_find N d) a1 a2 (fun s11 =>
        some ((-1), s11)) N v3 σ)
    else (
      gI σ 5 8 fun v12 =>
      wI σ 5 8 (v12 - 1) fun s13 =>
      gI s13 5 8 fun v14 =>
      if 0 ≤ v14 then (
        some ((-1), s13))
      else (
        some (0, s13)))
set_option maxHeartbeats 4000000 in
set_option maxRecDepth 100000 in
theorem c_X0_find_d {l : Launch} {D : va_G} {cy : Nat → ClassId} {h : Nat → Nat} {N : Nat} (hW : WF (wsC cy h) (adC h)) : ∀ (d : Nat), ∀ (σ : Wd) (a1 : Int32) (a2 : Int32) (r : Int32 × Wd), f_X0_find N d σ a1 a2 = some r → Con l D cy (wsC cy h) (adC h) yX0_find wsX0_find (rm_X0_find d) 0 0 [.ref (h 5), .int a1, .int a2] ((fun r : Int32 × Wd => some (.int r.1)) r) σ ((fun r => r.2) r) := by
  intro d
  induction d with
  | zero => intros; rename_i hr; exact nomatch hr
  | succ d hrec =>
    intro σ a1 a2 r hr
    rw [f_X0_find] at hr
    refine Con.of (lv0 := [(0, .ref (h 5)), (1, .int a1), (2, .int a2)]) (fun r : Int32 × Wd => some (.int r.1)) (fun r => r.2) (by decide) rfl rfl (Nat.le_of_ble_eq_true rfl) rfl hW hr (fun p e s m args below meth c E => ?_)
    refine G.iload_n E dX0_find_0 1 rfl rfl ?_
    refine G.aload_n E dX0_find_1 0 rfl rfl ?_
    refine G.getI (T := TX0) (N := 9) (C := RX0) (q0 := 5) (i := 5) E dX0_find_2 iw_X0_find_0 (wsC_at5 _ _ _) rfl (by decide) rfl (List.mem_of_getElem? (i := 1) rfl) (fun v1 => ?_)
    refine G.icmp_lt (tgt := 31) E dX0_find_5 (by decide) ?_ ?_
    · refine G.aload_n E dX0_find_31 0 rfl rfl ?_
      refine G.getI (T := TX0) (N := 9) (C := RX0) (q0 := 5) (i := 5) E dX0_find_32 iw_X0_find_0 (wsC_at5 _ _ _) rfl (by decide) rfl (List.mem_of_getElem? (i := 1) rfl) (fun v2 => ?_)
      refine G.iload_n E dX0_find_35 1 rfl rfl ?_
      refine G.isub E dX0_find_36 ?_
      refine G.iconst (v := 1) E dX0_find_37 (by decide) ?_
      refine G.isub E dX0_find_38 ?_
      refine G.letI (fun v3 => ?_)
      refine G.istore_n (lv' := [(3, .int v3), (0, .ref (h 5)), (1, .int a1), (2, .int a2)]) E dX0_find_39 rfl (by decide) rfl ?_
      refine G.loc [1, 2, 3, 0] rfl ?_
      refine gl_X0_find_40 E hrec (fun s11 => ?_) N _ _
      refine G.iconst (v := (-1)) E dX0_find_93 (by decide) ?_
      exact G.iret E dX0_find_94 rfl rfl
    · refine G.aload_n E dX0_find_8 0 rfl rfl ?_
      refine G.dup E dX0_find_9 rfl ?_
      refine G.getI (T := TX0) (N := 9) (C := RX0) (q0 := 5) (i := 8) E dX0_find_10 iw_X0_find_0 (wsC_at5 _ _ _) rfl (by decide) rfl (List.mem_of_getElem? (i := 2) rfl) (fun v12 => ?_)
      refine G.iconst (v := 1) E dX0_find_13 (by decide) ?_
      refine G.isub E dX0_find_14 ?_
      refine G.putI (T := TX0) (N := 9) (C := RX0) (q0 := 5) (i := 8) (ty := .int) E dX0_find_15 iw_X0_find_0 tyX0 tyX0_ok nmX0 (wsC_at5 _ _ _) rfl (by decide) (List.mem_of_getElem? (i := 2) rfl) rfl (by decide +kernel) rfl rfl (Nat.le_of_ble_eq_true rfl) (wsC_set5_8 _ _ _ _) (fun s13 => ?_)
      refine G.aload_n E dX0_find_18 0 rfl rfl ?_
      refine G.getI (T := TX0) (N := 9) (C := RX0) (q0 := 5) (i := 8) E dX0_find_19 iw_X0_find_0 (wsC_at5 _ _ _) rfl (by decide) rfl (List.mem_of_getElem? (i := 2) rfl) (fun v14 => ?_)
      refine G.if_ge (tgt := 29) E dX0_find_22 (by decide) ?_ ?_
      · refine G.iconst (v := (-1)) E dX0_find_29 (by decide) ?_
        exact G.iret E dX0_find_30 rfl rfl
      · refine G.iconst (v := 0) E dX0_find_25 (by decide) ?_
        refine G.goto (tgt := 30) E dX0_find_26 (by decide) ?_
        exact G.iret E dX0_find_30 rfl rfl
set_option maxHeartbeats 4000000 in
set_option maxRecDepth 100000 in
theorem c_X0_find {l : Launch} {D : va_G} {cy : Nat → ClassId} {h : Nat → Nat} {N : Nat} {σ : Wd} {a1 : Int32} {a2 : Int32} {r : Int32} {σ1 : Wd} (hW : WF (wsC cy h) (adC h)) (hr : f_X0_find N 10 σ a1 a2 = some (r, σ1)) : Con l D cy (wsC cy h) (adC h) yX0_find wsX0_find (rm_X0_find 10) 0 0 [.ref (h 5), .int a1, .int a2] (some (.int r)) σ σ1 := c_X0_find_d hW 10 _ _ _ _ hr
set_option maxHeartbeats 4000000 in
set_option maxRecDepth 100000 in
theorem iw_X4_hasNode_4 : ∀ w ∈ u_ws RX4 TX4 8, w ∈ wsX4_hasNode := fun _ h => List.mem_cons_of_mem _ (List.mem_append_right _ h)
abbrev rm_X4_hasNode : Room := { frames := 1, cells := 0, slots := 0, locals := 21 }
noncomputable def f_X4_hasNode (N : Nat) (σ : Wd) (a0 : Int32) : Option (Int32) :=
  if a0 < 0 then (
    some 0)
  else (
    if 7 ≤ a0 then (
      some 0)
    else (
      gI σ 1 0 fun v1 =>
      bP (f_X7_isIn N v1 a0) fun v2 =>
      if v2 = 0 then (
        some 0)
      else (
        some 1)))
set_option maxHeartbeats 4000000 in
set_option maxRecDepth 100000 in
theorem c_X4_hasNode {l : Launch} {D : va_G} {cy : Nat → ClassId} {h : Nat → Nat} {N : Nat} {σ : Wd} {a0 : Int32} {r : Int32} (hW : WF (wsC cy h) (adC h)) (hr : f_X4_hasNode N σ a0 = some r) : Con l D cy (wsC cy h) (adC h) yX4_hasNode wsX4_hasNode rm_X4_hasNode 0 0 [.ref (h 1), .int a0] (some (.int r)) σ σ := by
  refine Con.of (ρ := Int32) (lv0 := [(0, .ref (h 1)), (1, .int a0)]) (σ := σ) (fun r : Int32 => some (.int r)) (fun _ => σ) (by decide) rfl rfl (Nat.le_of_ble_eq_true rfl) rfl hW hr (fun p e s m args below meth c E => ?_)
  unfold f_X4_hasNode
  refine G.iload_n E dX4_hasNode_0 1 rfl rfl ?_
  refine G.if_lt (tgt := 25) E dX4_hasNode_1 (by decide) ?_ ?_
  · refine G.iconst (v := 0) E dX4_hasNode_25 (by decide) ?_
    exact G.zretc E dX4_hasNode_26 rfl rfl rfl
  · refine G.iload_n E dX4_hasNode_4 1 rfl rfl ?_
    refine G.bipush (v := 7) E dX4_hasNode_5 (by decide) ?_
    refine G.icmp_ge (tgt := 25) E dX4_hasNode_7 (by decide) ?_ ?_
    · refine G.iconst (v := 0) E dX4_hasNode_25 (by decide) ?_
      exact G.zretc E dX4_hasNode_26 rfl rfl rfl
    · refine G.aload_n E dX4_hasNode_10 0 rfl rfl ?_
      refine G.getI (T := TX4) (N := 8) (C := RX4) (q0 := 1) (i := 0) E dX4_hasNode_11 iw_X4_hasNode_4 (wsC_at1 _ _ _) rfl (by decide) rfl (List.mem_of_getElem? (i := 1) rfl) (fun v1 => ?_)
      refine G.iload_n E dX4_hasNode_14 1 rfl rfl ?_
      refine G.callNi (n := 2) (As := [.int v1, .int a0]) E dX4_hasNode_15 (fun _ hv => c_X7_isIn E.wf hv) gX4_hasNode_X7_isIn_n25 (List.mem_of_getElem? (i := 9) rfl) (List.mem_of_getElem? (i := 3) rfl) (List.mem_of_getElem? (i := 2) rfl) rfl rfl rfl (by decide +kernel) ⟨Nat.le_of_ble_eq_true rfl, Nat.le_of_ble_eq_true rfl⟩ rfl (Nat.le_of_ble_eq_true rfl) ⟨Nat.le_of_ble_eq_true rfl, Nat.le_of_ble_eq_true rfl⟩ (fun v2 => ?_)
      refine G.if_eq (tgt := 25) E dX4_hasNode_18 (by decide) ?_ ?_
      · refine G.iconst (v := 0) E dX4_hasNode_25 (by decide) ?_
        exact G.zretc E dX4_hasNode_26 rfl rfl rfl
      · refine G.iconst (v := 1) E dX4_hasNode_21 (by decide) ?_
        refine G.goto (tgt := 26) E dX4_hasNode_22 (by decide) ?_
        exact G.zretc E dX4_hasNode_26 rfl rfl rfl
abbrev rm_X4_lowestNode : Room := { frames := 2, cells := 0, slots := 0, locals := 42 }
noncomputable def fl_X4_lowestNode_2 (N : Nat) (σ : Wd) (K : Unit → Option (Int32)) : Nat → Int32 → Option (Int32)
  | 0, _ => none
  | n + 1, x1 =>
    if 7 ≤ x1 then (
      K ())
    else (
      bP (f_X4_hasNode N σ x1) fun v1 =>
      if v1 = 0 then (
        fl_X4_lowestNode_2 N σ K n (x1 + 1))
      else (
        some x1))
set_option maxHeartbeats 4000000 in
set_option maxRecDepth 100000 in
theorem gl_X4_lowestNode_2 {N : Nat} {σ : Wd} {K : Unit → Option (Int32)} (E : EV p s m args meth c cX4_lowestNode 2 RX4 wsX4_lowestNode (some .int) D cy (wsC cy h) (adC h)) (hK : ∀ (u : Unit), G p l e (headSpec wsX4_lowestNode rm_X4_lowestNode).room s m args below meth c 2 0 0 D (wsC cy h) (adC h) (QM D (wsC cy h) (adC h) below args s 0 0 (fun r : Int32 => some (.int r)) (fun _ => σ)) 24 [] [] σ (K u)) :
  ∀ (n : Nat) (x1 : Int32), G p l e (headSpec wsX4_lowestNode rm_X4_lowestNode).room s m args below meth c 2 0 0 D (wsC cy h) (adC h) (QM D (wsC cy h) (adC h) below args s 0 0 (fun r : Int32 => some (.int r)) (fun _ => σ)) 2 [(0, .ref (h 1)), (1, .int x1)] [] σ (fl_X4_lowestNode_2 N σ K n x1) := by
  intro n
  induction n with
  | zero => intros; exact G.no
  | succ n ih =>
    intro x1
    rw [fl_X4_lowestNode_2]
    refine G.iload_n E dX4_lowestNode_2 1 rfl rfl ?_
    refine G.bipush (v := 7) E dX4_lowestNode_3 (by decide) ?_
    refine G.icmp_ge (tgt := 24) E dX4_lowestNode_5 (by decide) ?_ ?_
    · refine G.loc [] rfl ?_
      exact hK ()
    · refine G.aload_n E dX4_lowestNode_8 0 rfl rfl ?_
      refine G.iload_n E dX4_lowestNode_9 1 rfl rfl ?_
      refine G.callVi (n := 1) (T := TX4) (N := 8) (C := RX4) (a := h 1) (q0 := 1) (As := [.int x1]) E dX4_lowestNode_10 (fun _ hv => c_X4_hasNode E.wf hv) gX4_lowestNode_X4_hasNode rfl rfl rfl (by decide +kernel) ⟨Nat.le_of_ble_eq_true rfl, Nat.le_of_ble_eq_true rfl⟩ (wsC_at1 _ _ _) rfl rfl (Nat.le_of_ble_eq_true rfl) ⟨Nat.le_of_ble_eq_true rfl, Nat.le_of_ble_eq_true rfl⟩ (fun v1 => ?_)
      refine G.if_eq (tgt := 18) E dX4_lowestNode_13 (by decide) ?_ ?_
      · refine G.iinc (v := x1 + 1) (lv' := [(1, .int (x1 + 1)), (0, .ref (h 1))]) E dX4_lowestNode_18 1 rfl rfl (by decide) rfl ?_
        refine G.goto (tgt := 2) E dX4_lowestNode_21 (by decide) ?_
        refine G.loc [1, 0] rfl ?_
        exact ih (x1 + 1)
      · refine G.iload_n E dX4_lowestNode_16 1 rfl rfl ?_
        exact G.iret E dX4_lowestNode_17 rfl rfl
noncomputable def f_X4_lowestNode (N : Nat) (σ : Wd) : Option (Int32) :=
  fl_X4_lowestNode_2 N σ (fun (_ : Unit) =>
    some (-1)) N 0
set_option maxHeartbeats 4000000 in
set_option maxRecDepth 100000 in
theorem c_X4_lowestNode {l : Launch} {D : va_G} {cy : Nat → ClassId} {h : Nat → Nat} {N : Nat} {σ : Wd} {r : Int32} (hW : WF (wsC cy h) (adC h)) (hr : f_X4_lowestNode N σ = some r) : Con l D cy (wsC cy h) (adC h) yX4_lowestNode wsX4_lowestNode rm_X4_lowestNode 0 0 [.ref (h 1)] (some (.int r)) σ σ := by
  refine Con.of (ρ := Int32) (lv0 := [(0, .ref (h 1))]) (σ := σ) (fun r : Int32 => some (.int r)) (fun _ => σ) (by decide) rfl rfl (Nat.le_of_ble_eq_true rfl) rfl hW hr (fun p e s m args below meth c E => ?_)
  unfold f_X4_lowestNode
  refine G.iconst (v := 0) E dX4_lowestNode_0 (by decide) ?_
  refine G.istore_n (lv' := [(1, .int 0), (0, .ref (h 1))]) E dX4_lowestNode_1 rfl (by decide) rfl ?_
  refine G.loc [1, 0] rfl ?_
  refine gl_X4_lowestNode_2 E (fun _ => ?_) N _
  refine G.iconst (v := (-1)) E dX4_lowestNode_24 (by decide) ?_
  exact G.iret E dX4_lowestNode_25 rfl rfl
end TR
