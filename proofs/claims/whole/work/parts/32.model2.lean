section TR
variable {p : Program} {l : Launch} {e : Env} {s : State} {m : MethodId} {args : Array Value} {below : List Frame} {meth : Method} {c : Code} {D : va_G} {cy : Nat → ClassId} {h : Nat → Nat}

set_option maxHeartbeats 4000000 in
set_option maxRecDepth 100000 in
theorem iw_X8_products_8 : ∀ w ∈ u_ws RX8 TX8 21, w ∈ wsX8_products := fun _ h => List.mem_cons_of_mem _ (List.mem_append_right _ h)
abbrev rm_X8_products : Room := { frames := 0, cells := 0, slots := 0, locals := 0 }
noncomputable def f_X8_products (N : Nat) (σ : Wd) : Option (Int32) :=
  rI σ 12 3 0 fun v1 =>
  rI σ 3 20 v1 fun v2 =>
  rI σ 12 3 1 fun v3 =>
  rI σ 3 20 v3 fun v4 =>
  rI σ 12 3 2 fun v5 =>
  rI σ 3 20 v5 fun v6 =>
  some (((v2 * v4) + (v2 * v6)) + (v4 * v6))
set_option maxHeartbeats 4000000 in
set_option maxRecDepth 100000 in
theorem c_X8_products {l : Launch} {D : va_G} {cy : Nat → ClassId} {h : Nat → Nat} {N : Nat} {σ : Wd} {r : Int32} (hW : WF (wsM cy h) (adM h)) (hr : f_X8_products N σ = some r) : Con l D cy (wsM cy h) (adM h) yX8_products wsX8_products rm_X8_products 0 0 [.ref (h 0)] (some (.int r)) σ σ := by
  refine Con.of (ρ := Int32) (lv0 := [(0, .ref (h 0))]) (σ := σ) (fun r : Int32 => some (.int r)) (fun _ => σ) (by decide) rfl rfl (Nat.le_of_ble_eq_true rfl) rfl hW hr (fun p e s m args below meth c E => ?_)
  unfold f_X8_products
  refine G.aload_n E dX8_products_0 0 rfl rfl ?_
  refine G.getR (T := TX8) (N := 21) (C := RX8) (q0 := 0) (i := 8) E dX8_products_1 iw_X8_products_8 (wsM_at0 _ _ _) rfl (by decide) rfl (List.mem_of_getElem? (i := 1) rfl) ?_
  refine G.aload_n E dX8_products_4 0 rfl rfl ?_
  refine G.getR (T := TX8) (N := 21) (C := RX8) (q0 := 0) (i := 20) E dX8_products_5 iw_X8_products_8 (wsM_at0 _ _ _) rfl (by decide) rfl (List.mem_of_getElem? (i := 2) rfl) ?_
  refine G.iconst (v := 0) E dX8_products_8 (by decide) ?_
  refine G.iald (q0 := 12) E dX8_products_9 (wsM_at12 _ _ _) (fun v1 => ?_)
  refine G.iald (q0 := 3) E dX8_products_10 (wsM_at3 _ _ _) (fun v2 => ?_)
  refine G.istore_n (lv' := [(1, .int v2), (0, .ref (h 0))]) E dX8_products_11 rfl (by decide) rfl ?_
  refine G.aload_n E dX8_products_12 1 rfl rfl ?_
  refine G.getR (T := TX8) (N := 21) (C := RX8) (q0 := 0) (i := 8) E dX8_products_13 iw_X8_products_8 (wsM_at0 _ _ _) rfl (by decide) rfl (List.mem_of_getElem? (i := 1) rfl) ?_
  refine G.aload_n E dX8_products_16 1 rfl rfl ?_
  refine G.getR (T := TX8) (N := 21) (C := RX8) (q0 := 0) (i := 20) E dX8_products_17 iw_X8_products_8 (wsM_at0 _ _ _) rfl (by decide) rfl (List.mem_of_getElem? (i := 2) rfl) ?_
  refine G.iconst (v := 1) E dX8_products_20 (by decide) ?_
  refine G.iald (q0 := 12) E dX8_products_21 (wsM_at12 _ _ _) (fun v3 => ?_)
  refine G.iald (q0 := 3) E dX8_products_22 (wsM_at3 _ _ _) (fun v4 => ?_)
  refine G.istore_n (lv' := [(2, .int v4), (1, .int v2), (0, .ref (h 0))]) E dX8_products_23 rfl (by decide) rfl ?_
  refine G.aload_n E dX8_products_24 2 rfl rfl ?_
  refine G.getR (T := TX8) (N := 21) (C := RX8) (q0 := 0) (i := 8) E dX8_products_25 iw_X8_products_8 (wsM_at0 _ _ _) rfl (by decide) rfl (List.mem_of_getElem? (i := 1) rfl) ?_
  refine G.aload_n E dX8_products_28 2 rfl rfl ?_
  refine G.getR (T := TX8) (N := 21) (C := RX8) (q0 := 0) (i := 20) E dX8_products_29 iw_X8_products_8 (wsM_at0 _ _ _) rfl (by decide) rfl (List.mem_of_getElem? (i := 2) rfl) ?_
  refine G.iconst (v := 2) E dX8_products_32 (by decide) ?_
  refine G.iald (q0 := 12) E dX8_products_33 (wsM_at12 _ _ _) (fun v5 => ?_)
  refine G.iald (q0 := 3) E dX8_products_34 (wsM_at3 _ _ _) (fun v6 => ?_)
  refine G.istore_n (lv' := [(3, .int v6), (2, .int v4), (1, .int v2), (0, .ref (h 0))]) E dX8_products_35 rfl (by decide) rfl ?_
  refine G.iload_n E dX8_products_36 2 rfl rfl ?_
  refine G.iload_n E dX8_products_37 1 rfl rfl ?_
  refine G.imul E dX8_products_38 ?_
  refine G.iload_n E dX8_products_39 2 rfl rfl ?_
  refine G.iload_n E dX8_products_40 0 rfl rfl ?_
  refine G.imul E dX8_products_41 ?_
  refine G.iadd E dX8_products_42 ?_
  refine G.iload_n E dX8_products_43 1 rfl rfl ?_
  refine G.iload_n E dX8_products_44 0 rfl rfl ?_
  refine G.imul E dX8_products_45 ?_
  refine G.iadd E dX8_products_46 ?_
  exact G.iret E dX8_products_47 rfl rfl
set_option maxHeartbeats 4000000 in
set_option maxRecDepth 100000 in
theorem iw_X8_canStar_8 : ∀ w ∈ u_ws RX8 TX8 21, w ∈ wsX8_canStar := fun _ h => List.mem_cons_of_mem _ (List.mem_append_right _ h)
abbrev rm_X8_canStar : Room := { frames := 3, cells := 0, slots := 0, locals := 70 }
noncomputable def f_X8_canStar (N : Nat) (σ : Wd) (a0 : Int32) : Option (Int32 × Wd) :=
  gI σ 0 4 fun v1 =>
  if 20 < (v1 + 3) then (
    some (0, σ))
  else (
    gI σ 0 1 fun v2 =>
    if v2 = 7 then (
      some (0, σ))
    else (
      bS (f_X8_findsTriangle N σ a0) fun v3 s4 =>
      if v3 = 0 then (
        some (0, s4))
      else (
        bP (f_X8_products N s4) fun v5 =>
        rI s4 12 3 0 fun v6 =>
        rI s4 3 20 v6 fun v7 =>
        bP (f_X8_isWhole N v5 v7) fun v8 =>
        if v8 = 0 then (
          some (0, s4))
        else (
          rI s4 12 3 1 fun v9 =>
          rI s4 3 20 v9 fun v10 =>
          bP (f_X8_isWhole N v5 v10) fun v11 =>
          if v11 = 0 then (
            some (0, s4))
          else (
            rI s4 12 3 2 fun v12 =>
            rI s4 3 20 v12 fun v13 =>
            bP (f_X8_isWhole N v5 v13) fun v14 =>
            if v14 = 0 then (
              some (0, s4))
            else (
              some (1, s4)))))))
set_option maxHeartbeats 4000000 in
set_option maxRecDepth 100000 in
theorem c_X8_canStar {l : Launch} {D : va_G} {cy : Nat → ClassId} {h : Nat → Nat} {N : Nat} {σ : Wd} {a0 : Int32} {r : Int32} {σ1 : Wd} (hW : WF (wsM cy h) (adM h)) (hr : f_X8_canStar N σ a0 = some (r, σ1)) : Con l D cy (wsM cy h) (adM h) yX8_canStar wsX8_canStar rm_X8_canStar 0 0 [.ref (h 0), .int a0] (some (.int r)) σ σ1 := by
  refine Con.of (ρ := Int32 × Wd) (lv0 := [(0, .ref (h 0)), (1, .int a0)]) (σ := σ) (fun r : Int32 × Wd => some (.int r.1)) (fun r => r.2) (by decide) rfl rfl (Nat.le_of_ble_eq_true rfl) rfl hW hr (fun p e s m args below meth c E => ?_)
  unfold f_X8_canStar
  refine G.aload_n E dX8_canStar_0 0 rfl rfl ?_
  refine G.getI (T := TX8) (N := 21) (C := RX8) (q0 := 0) (i := 4) E dX8_canStar_1 iw_X8_canStar_8 (wsM_at0 _ _ _) rfl (by decide) rfl (List.mem_of_getElem? (i := 1) rfl) (fun v1 => ?_)
  refine G.iconst (v := 3) E dX8_canStar_4 (by decide) ?_
  refine G.iadd E dX8_canStar_5 ?_
  refine G.bipush (v := 20) E dX8_canStar_6 (by decide) ?_
  refine G.icmp_gt (tgt := 28) E dX8_canStar_8 (by decide) ?_ ?_
  · refine G.iconst (v := 0) E dX8_canStar_28 (by decide) ?_
    exact G.zretc E dX8_canStar_29 rfl rfl rfl
  · refine G.aload_n E dX8_canStar_11 0 rfl rfl ?_
    refine G.getI (T := TX8) (N := 21) (C := RX8) (q0 := 0) (i := 1) E dX8_canStar_12 iw_X8_canStar_8 (wsM_at0 _ _ _) rfl (by decide) rfl (List.mem_of_getElem? (i := 2) rfl) (fun v2 => ?_)
    refine G.bipush (v := 7) E dX8_canStar_15 (by decide) ?_
    refine G.icmp_eq (tgt := 28) E dX8_canStar_17 (by decide) ?_ ?_
    · refine G.iconst (v := 0) E dX8_canStar_28 (by decide) ?_
      exact G.zretc E dX8_canStar_29 rfl rfl rfl
    · refine G.aload_n E dX8_canStar_20 0 rfl rfl ?_
      refine G.iload_n E dX8_canStar_21 1 rfl rfl ?_
      refine G.callVis (n := 1) (T := TX8) (N := 21) (C := RX8) (a := h 0) (q0 := 0) (As := [.int a0]) E dX8_canStar_22 (fun _ _ hv => c_X8_findsTriangle E.wf hv) gX8_canStar_X8_findsTriangle rfl rfl rfl (by decide +kernel) ⟨Nat.le_of_ble_eq_true rfl, Nat.le_of_ble_eq_true rfl⟩ (wsM_at0 _ _ _) rfl rfl (Nat.le_of_ble_eq_true rfl) ⟨Nat.le_of_ble_eq_true rfl, Nat.le_of_ble_eq_true rfl⟩ (fun v3 s4 => ?_)
      refine G.if_ne (tgt := 30) E dX8_canStar_25 (by decide) ?_ ?_
      · refine G.iconst (v := 0) E dX8_canStar_28 (by decide) ?_
        exact G.zretc E dX8_canStar_29 rfl rfl rfl
      · refine G.aload_n E dX8_canStar_30 0 rfl rfl ?_
        refine G.callVi (n := 0) (T := TX8) (N := 21) (C := RX8) (a := h 0) (q0 := 0) (As := []) E dX8_canStar_31 (fun _ hv => c_X8_products E.wf hv) gX8_canStar_X8_products rfl rfl rfl (by decide +kernel) ⟨Nat.le_of_ble_eq_true rfl, Nat.le_of_ble_eq_true rfl⟩ (wsM_at0 _ _ _) rfl rfl (Nat.le_of_ble_eq_true rfl) ⟨Nat.le_of_ble_eq_true rfl, Nat.le_of_ble_eq_true rfl⟩ (fun v5 => ?_)
        refine G.istore_n (lv' := [(2, .int v5), (0, .ref (h 0)), (1, .int a0)]) E dX8_canStar_34 rfl (by decide) rfl ?_
        refine G.iload_n E dX8_canStar_35 0 rfl rfl ?_
        refine G.aload_n E dX8_canStar_36 1 rfl rfl ?_
        refine G.getR (T := TX8) (N := 21) (C := RX8) (q0 := 0) (i := 8) E dX8_canStar_37 iw_X8_canStar_8 (wsM_at0 _ _ _) rfl (by decide) rfl (List.mem_of_getElem? (i := 3) rfl) ?_
        refine G.aload_n E dX8_canStar_40 1 rfl rfl ?_
        refine G.getR (T := TX8) (N := 21) (C := RX8) (q0 := 0) (i := 20) E dX8_canStar_41 iw_X8_canStar_8 (wsM_at0 _ _ _) rfl (by decide) rfl (List.mem_of_getElem? (i := 4) rfl) ?_
        refine G.iconst (v := 0) E dX8_canStar_44 (by decide) ?_
        refine G.iald (q0 := 12) E dX8_canStar_45 (wsM_at12 _ _ _) (fun v6 => ?_)
        refine G.iald (q0 := 3) E dX8_canStar_46 (wsM_at3 _ _ _) (fun v7 => ?_)
        refine G.callSi (n := 2) (As := [.int v5, .int v7]) E dX8_canStar_47 (fun _ hv => c_X8_isWhole E.wf hv) gX8_canStar_X8_isWhole rfl rfl rfl (by decide +kernel) ⟨Nat.le_of_ble_eq_true rfl, Nat.le_of_ble_eq_true rfl⟩ rfl (Nat.le_of_ble_eq_true rfl) ⟨Nat.le_of_ble_eq_true rfl, Nat.le_of_ble_eq_true rfl⟩ (fun v8 => ?_)
        refine G.if_eq (tgt := 93) E dX8_canStar_50 (by decide) ?_ ?_
        · refine G.iconst (v := 0) E dX8_canStar_93 (by decide) ?_
          exact G.zretc E dX8_canStar_94 rfl rfl rfl
        · refine G.iload_n E dX8_canStar_53 0 rfl rfl ?_
          refine G.aload_n E dX8_canStar_54 1 rfl rfl ?_
          refine G.getR (T := TX8) (N := 21) (C := RX8) (q0 := 0) (i := 8) E dX8_canStar_55 iw_X8_canStar_8 (wsM_at0 _ _ _) rfl (by decide) rfl (List.mem_of_getElem? (i := 3) rfl) ?_
          refine G.aload_n E dX8_canStar_58 1 rfl rfl ?_
          refine G.getR (T := TX8) (N := 21) (C := RX8) (q0 := 0) (i := 20) E dX8_canStar_59 iw_X8_canStar_8 (wsM_at0 _ _ _) rfl (by decide) rfl (List.mem_of_getElem? (i := 4) rfl) ?_
          refine G.iconst (v := 1) E dX8_canStar_62 (by decide) ?_
          refine G.iald (q0 := 12) E dX8_canStar_63 (wsM_at12 _ _ _) (fun v9 => ?_)
          refine G.iald (q0 := 3) E dX8_canStar_64 (wsM_at3 _ _ _) (fun v10 => ?_)
          refine G.callSi (n := 2) (As := [.int v5, .int v10]) E dX8_canStar_65 (fun _ hv => c_X8_isWhole E.wf hv) gX8_canStar_X8_isWhole rfl rfl rfl (by decide +kernel) ⟨Nat.le_of_ble_eq_true rfl, Nat.le_of_ble_eq_true rfl⟩ rfl (Nat.le_of_ble_eq_true rfl) ⟨Nat.le_of_ble_eq_true rfl, Nat.le_of_ble_eq_true rfl⟩ (fun v11 => ?_)
          refine G.if_eq (tgt := 93) E dX8_canStar_68 (by decide) ?_ ?_
          · refine G.iconst (v := 0) E dX8_canStar_93 (by decide) ?_
            exact G.zretc E dX8_canStar_94 rfl rfl rfl
          · refine G.iload_n E dX8_canStar_71 0 rfl rfl ?_
            refine G.aload_n E dX8_canStar_72 1 rfl rfl ?_
            refine G.getR (T := TX8) (N := 21) (C := RX8) (q0 := 0) (i := 8) E dX8_canStar_73 iw_X8_canStar_8 (wsM_at0 _ _ _) rfl (by decide) rfl (List.mem_of_getElem? (i := 3) rfl) ?_
            refine G.aload_n E dX8_canStar_76 1 rfl rfl ?_
            refine G.getR (T := TX8) (N := 21) (C := RX8) (q0 := 0) (i := 20) E dX8_canStar_77 iw_X8_canStar_8 (wsM_at0 _ _ _) rfl (by decide) rfl (List.mem_of_getElem? (i := 4) rfl) ?_
            refine G.iconst (v := 2) E dX8_canStar_80 (by decide) ?_
            refine G.iald (q0 := 12) E dX8_canStar_81 (wsM_at12 _ _ _) (fun v12 => ?_)
            refine G.iald (q0 := 3) E dX8_canStar_82 (wsM_at3 _ _ _) (fun v13 => ?_)
            refine G.callSi (n := 2) (As := [.int v5, .int v13]) E dX8_canStar_83 (fun _ hv => c_X8_isWhole E.wf hv) gX8_canStar_X8_isWhole rfl rfl rfl (by decide +kernel) ⟨Nat.le_of_ble_eq_true rfl, Nat.le_of_ble_eq_true rfl⟩ rfl (Nat.le_of_ble_eq_true rfl) ⟨Nat.le_of_ble_eq_true rfl, Nat.le_of_ble_eq_true rfl⟩ (fun v14 => ?_)
            refine G.if_eq (tgt := 93) E dX8_canStar_86 (by decide) ?_ ?_
            · refine G.iconst (v := 0) E dX8_canStar_93 (by decide) ?_
              exact G.zretc E dX8_canStar_94 rfl rfl rfl
            · refine G.iconst (v := 1) E dX8_canStar_89 (by decide) ?_
              refine G.goto (tgt := 94) E dX8_canStar_90 (by decide) ?_
              exact G.zretc E dX8_canStar_94 rfl rfl rfl
set_option maxHeartbeats 4000000 in
set_option maxRecDepth 100000 in
theorem iw_X8_canTriangle_8 : ∀ w ∈ u_ws RX8 TX8 21, w ∈ wsX8_canTriangle := fun _ h => List.mem_cons_of_mem _ (List.mem_append_right _ h)
abbrev rm_X8_canTriangle : Room := { frames := 3, cells := 0, slots := 0, locals := 70 }
noncomputable def f_X8_canTriangle (N : Nat) (σ : Wd) (a0 : Int32) : Option (Int32 × Wd) :=
  gI σ 0 4 fun v1 =>
  if 20 < (v1 + 3) then (
    some (0, σ))
  else (
    bS (f_X8_isInner N σ a0 3) fun v2 s3 =>
    if v2 = 0 then (
      some (0, s3))
    else (
      rI s3 12 3 0 fun v4 =>
      rI s3 3 20 v4 fun v5 =>
      rI s3 12 3 1 fun v6 =>
      rI s3 3 20 v6 fun v7 =>
      rI s3 12 3 2 fun v8 =>
      rI s3 3 20 v8 fun v9 =>
      lI ((v5 + v7) + v9) fun v10 =>
      bP (f_X8_isWhole N (v5 * v7) v10) fun v11 =>
      if v11 = 0 then (
        some (0, s3))
      else (
        bP (f_X8_isWhole N (v5 * v9) v10) fun v12 =>
        if v12 = 0 then (
          some (0, s3))
        else (
          bP (f_X8_isWhole N (v7 * v9) v10) fun v13 =>
          if v13 = 0 then (
            some (0, s3))
          else (
            some (1, s3))))))
set_option maxHeartbeats 4000000 in
set_option maxRecDepth 100000 in
theorem c_X8_canTriangle {l : Launch} {D : va_G} {cy : Nat → ClassId} {h : Nat → Nat} {N : Nat} {σ : Wd} {a0 : Int32} {r : Int32} {σ1 : Wd} (hW : WF (wsM cy h) (adM h)) (hr : f_X8_canTriangle N σ a0 = some (r, σ1)) : Con l D cy (wsM cy h) (adM h) yX8_canTriangle wsX8_canTriangle rm_X8_canTriangle 0 0 [.ref (h 0), .int a0] (some (.int r)) σ σ1 := by
  refine Con.of (ρ := Int32 × Wd) (lv0 := [(0, .ref (h 0)), (1, .int a0)]) (σ := σ) (fun r : Int32 × Wd => some (.int r.1)) (fun r => r.2) (by decide) rfl rfl (Nat.le_of_ble_eq_true rfl) rfl hW hr (fun p e s m args below meth c E => ?_)
  unfold f_X8_canTriangle
  refine G.aload_n E dX8_canTriangle_0 0 rfl rfl ?_
  refine G.getI (T := TX8) (N := 21) (C := RX8) (q0 := 0) (i := 4) E dX8_canTriangle_1 iw_X8_canTriangle_8 (wsM_at0 _ _ _) rfl (by decide) rfl (List.mem_of_getElem? (i := 1) rfl) (fun v1 => ?_)
  refine G.iconst (v := 3) E dX8_canTriangle_4 (by decide) ?_
  refine G.iadd E dX8_canTriangle_5 ?_
  refine G.bipush (v := 20) E dX8_canTriangle_6 (by decide) ?_
  refine G.icmp_gt (tgt := 20) E dX8_canTriangle_8 (by decide) ?_ ?_
  · refine G.iconst (v := 0) E dX8_canTriangle_20 (by decide) ?_
    exact G.zretc E dX8_canTriangle_21 rfl rfl rfl
  · refine G.aload_n E dX8_canTriangle_11 0 rfl rfl ?_
    refine G.iload_n E dX8_canTriangle_12 1 rfl rfl ?_
    refine G.iconst (v := 3) E dX8_canTriangle_13 (by decide) ?_
    refine G.callVis (n := 2) (T := TX8) (N := 21) (C := RX8) (a := h 0) (q0 := 0) (As := [.int a0, .int 3]) E dX8_canTriangle_14 (fun _ _ hv => c_X8_isInner E.wf hv) gX8_canTriangle_X8_isInner rfl rfl rfl (by decide +kernel) ⟨Nat.le_of_ble_eq_true rfl, Nat.le_of_ble_eq_true rfl⟩ (wsM_at0 _ _ _) rfl rfl (Nat.le_of_ble_eq_true rfl) ⟨Nat.le_of_ble_eq_true rfl, Nat.le_of_ble_eq_true rfl⟩ (fun v2 s3 => ?_)
    refine G.if_ne (tgt := 22) E dX8_canTriangle_17 (by decide) ?_ ?_
    · refine G.iconst (v := 0) E dX8_canTriangle_20 (by decide) ?_
      exact G.zretc E dX8_canTriangle_21 rfl rfl rfl
    · refine G.aload_n E dX8_canTriangle_22 0 rfl rfl ?_
      refine G.getR (T := TX8) (N := 21) (C := RX8) (q0 := 0) (i := 8) E dX8_canTriangle_23 iw_X8_canTriangle_8 (wsM_at0 _ _ _) rfl (by decide) rfl (List.mem_of_getElem? (i := 2) rfl) ?_
      refine G.aload_n E dX8_canTriangle_26 0 rfl rfl ?_
      refine G.getR (T := TX8) (N := 21) (C := RX8) (q0 := 0) (i := 20) E dX8_canTriangle_27 iw_X8_canTriangle_8 (wsM_at0 _ _ _) rfl (by decide) rfl (List.mem_of_getElem? (i := 3) rfl) ?_
      refine G.iconst (v := 0) E dX8_canTriangle_30 (by decide) ?_
      refine G.iald (q0 := 12) E dX8_canTriangle_31 (wsM_at12 _ _ _) (fun v4 => ?_)
      refine G.iald (q0 := 3) E dX8_canTriangle_32 (wsM_at3 _ _ _) (fun v5 => ?_)
      refine G.istore_n (lv' := [(2, .int v5), (0, .ref (h 0)), (1, .int a0)]) E dX8_canTriangle_33 rfl (by decide) rfl ?_
      refine G.aload_n E dX8_canTriangle_34 1 rfl rfl ?_
      refine G.getR (T := TX8) (N := 21) (C := RX8) (q0 := 0) (i := 8) E dX8_canTriangle_35 iw_X8_canTriangle_8 (wsM_at0 _ _ _) rfl (by decide) rfl (List.mem_of_getElem? (i := 2) rfl) ?_
      refine G.aload_n E dX8_canTriangle_38 1 rfl rfl ?_
      refine G.getR (T := TX8) (N := 21) (C := RX8) (q0 := 0) (i := 20) E dX8_canTriangle_39 iw_X8_canTriangle_8 (wsM_at0 _ _ _) rfl (by decide) rfl (List.mem_of_getElem? (i := 3) rfl) ?_
      refine G.iconst (v := 1) E dX8_canTriangle_42 (by decide) ?_
      refine G.iald (q0 := 12) E dX8_canTriangle_43 (wsM_at12 _ _ _) (fun v6 => ?_)
      refine G.iald (q0 := 3) E dX8_canTriangle_44 (wsM_at3 _ _ _) (fun v7 => ?_)
      refine G.istore_n (lv' := [(3, .int v7), (2, .int v5), (0, .ref (h 0)), (1, .int a0)]) E dX8_canTriangle_45 rfl (by decide) rfl ?_
      refine G.aload_n E dX8_canTriangle_46 2 rfl rfl ?_
      refine G.getR (T := TX8) (N := 21) (C := RX8) (q0 := 0) (i := 8) E dX8_canTriangle_47 iw_X8_canTriangle_8 (wsM_at0 _ _ _) rfl (by decide) rfl (List.mem_of_getElem? (i := 2) rfl) ?_
      refine G.aload_n E dX8_canTriangle_50 2 rfl rfl ?_
      refine G.getR (T := TX8) (N := 21) (C := RX8) (q0 := 0) (i := 20) E dX8_canTriangle_51 iw_X8_canTriangle_8 (wsM_at0 _ _ _) rfl (by decide) rfl (List.mem_of_getElem? (i := 3) rfl) ?_
      refine G.iconst (v := 2) E dX8_canTriangle_54 (by decide) ?_
      refine G.iald (q0 := 12) E dX8_canTriangle_55 (wsM_at12 _ _ _) (fun v8 => ?_)
      refine G.iald (q0 := 3) E dX8_canTriangle_56 (wsM_at3 _ _ _) (fun v9 => ?_)
      refine G.istore (lv' := [(4, .int v9), (3, .int v7), (2, .int v5), (0, .ref (h 0)), (1, .int a0)]) E dX8_canTriangle_57 (by decide) rfl ?_
      refine G.iload_n E dX8_canTriangle_59 2 rfl rfl ?_
      refine G.iload_n E dX8_canTriangle_60 1 rfl rfl ?_
      refine G.iadd E dX8_canTriangle_61 ?_
      refine G.iload E dX8_canTriangle_62 0 rfl ?_
      refine G.iadd E dX8_canTriangle_64 ?_
      refine G.letI (fun v10 => ?_)
      refine G.istore (lv' := [(5, .int v10), (4, .int v9), (3, .int v7), (2, .int v5), (0, .ref (h 0)), (1, .int a0)]) E dX8_canTriangle_65 (by decide) rfl ?_
      refine G.iload_n E dX8_canTriangle_67 3 rfl rfl ?_
      refine G.iload_n E dX8_canTriangle_68 2 rfl rfl ?_
      refine G.imul E dX8_canTriangle_69 ?_
      refine G.iload E dX8_canTriangle_70 0 rfl ?_
      refine G.callSi (n := 2) (As := [.int (v5 * v7), .int v10]) E dX8_canTriangle_72 (fun _ hv => c_X8_isWhole E.wf hv) gX8_canTriangle_X8_isWhole rfl rfl rfl (by decide +kernel) ⟨Nat.le_of_ble_eq_true rfl, Nat.le_of_ble_eq_true rfl⟩ rfl (Nat.le_of_ble_eq_true rfl) ⟨Nat.le_of_ble_eq_true rfl, Nat.le_of_ble_eq_true rfl⟩ (fun v11 => ?_)
      refine G.if_eq (tgt := 106) E dX8_canTriangle_75 (by decide) ?_ ?_
      · refine G.iconst (v := 0) E dX8_canTriangle_106 (by decide) ?_
        exact G.zretc E dX8_canTriangle_107 rfl rfl rfl
      · refine G.iload_n E dX8_canTriangle_78 3 rfl rfl ?_
        refine G.iload E dX8_canTriangle_79 1 rfl ?_
        refine G.imul E dX8_canTriangle_81 ?_
        refine G.iload E dX8_canTriangle_82 0 rfl ?_
        refine G.callSi (n := 2) (As := [.int (v5 * v9), .int v10]) E dX8_canTriangle_84 (fun _ hv => c_X8_isWhole E.wf hv) gX8_canTriangle_X8_isWhole rfl rfl rfl (by decide +kernel) ⟨Nat.le_of_ble_eq_true rfl, Nat.le_of_ble_eq_true rfl⟩ rfl (Nat.le_of_ble_eq_true rfl) ⟨Nat.le_of_ble_eq_true rfl, Nat.le_of_ble_eq_true rfl⟩ (fun v12 => ?_)
        refine G.if_eq (tgt := 106) E dX8_canTriangle_87 (by decide) ?_ ?_
        · refine G.iconst (v := 0) E dX8_canTriangle_106 (by decide) ?_
          exact G.zretc E dX8_canTriangle_107 rfl rfl rfl
        · refine G.iload_n E dX8_canTriangle_90 2 rfl rfl ?_
          refine G.iload E dX8_canTriangle_91 1 rfl ?_
          refine G.imul E dX8_canTriangle_93 ?_
          refine G.iload E dX8_canTriangle_94 0 rfl ?_
          refine G.callSi (n := 2) (As := [.int (v7 * v9), .int v10]) E dX8_canTriangle_96 (fun _ hv => c_X8_isWhole E.wf hv) gX8_canTriangle_X8_isWhole rfl rfl rfl (by decide +kernel) ⟨Nat.le_of_ble_eq_true rfl, Nat.le_of_ble_eq_true rfl⟩ rfl (Nat.le_of_ble_eq_true rfl) ⟨Nat.le_of_ble_eq_true rfl, Nat.le_of_ble_eq_true rfl⟩ (fun v13 => ?_)
          refine G.if_eq (tgt := 106) E dX8_canTriangle_99 (by decide) ?_ ?_
          · refine G.iconst (v := 0) E dX8_canTriangle_106 (by decide) ?_
            exact G.zretc E dX8_canTriangle_107 rfl rfl rfl
          · refine G.iconst (v := 1) E dX8_canTriangle_102 (by decide) ?_
            refine G.goto (tgt := 107) E dX8_canTriangle_103 (by decide) ?_
            exact G.zretc E dX8_canTriangle_107 rfl rfl rfl
set_option maxHeartbeats 4000000 in
set_option maxRecDepth 100000 in
theorem iw_X8_chance_8 : ∀ w ∈ u_ws RX8 TX8 21, w ∈ wsX8_chance := fun _ h => List.mem_cons_of_mem _ (List.mem_append_right _ h)
abbrev rm_X8_chance : Room := { frames := 5, cells := 0, slots := 0, locals := 122 }
noncomputable def f_X8_chance (N : Nat) (σ : Wd) (a0 : Int32) (a1 : Int32) (a2 : Int32) (a3 : Int32) : Option (Int64 × Wd) :=
  bP (f_X8_isNode N σ a0) fun v1 =>
  jn (fun (v2 : Int32) => ((
    wI σ 0 0 v2 fun s3 =>
    gI s3 0 0 fun v4 =>
    if v4 ≤ 0 then (
      bS (f_X8_counts N s3 5 a1 a2 a0) fun v5 s6 =>
      bS (f_X8_counts N s6 4 a1 a2 0) fun v7 s8 =>
      bP (f_X8_part N v5 v7 a3) fun v9 =>
      some (v9, s8))
    else (
      some (0, s3))) : Option (Int64 × Wd))) fun j39 =>
  jn (fun (_u : Unit) => ((
    j39 1) : Option (Int64 × Wd))) fun j25 =>
  if v1 = 0 then (
    j25 ())
  else (
    bP (f_X8_isNode N σ a1) fun v10 =>
    if v10 = 0 then (
      j25 ())
    else (
      bP (f_X8_isNode N σ a2) fun v11 =>
      if v11 = 0 then (
        j25 ())
      else (
        if a1 = a2 then (
          j39 2)
        else (
          j39 0))))
set_option maxHeartbeats 4000000 in
set_option maxRecDepth 100000 in
theorem c_X8_chance {l : Launch} {D : va_G} {cy : Nat → ClassId} {h : Nat → Nat} {N : Nat} {σ : Wd} {a0 : Int32} {a1 : Int32} {a2 : Int32} {a3 : Int32} {r : Int64} {σ1 : Wd} (hW : WF (wsM cy h) (adM h)) (hr : f_X8_chance N σ a0 a1 a2 a3 = some (r, σ1)) : Con l D cy (wsM cy h) (adM h) yX8_chance wsX8_chance rm_X8_chance 0 0 [.ref (h 0), .int a0, .int a1, .int a2, .int a3] (some (.long r)) σ σ1 := by
  refine Con.of (ρ := Int64 × Wd) (lv0 := [(0, .ref (h 0)), (1, .int a0), (2, .int a1), (3, .int a2), (4, .int a3)]) (σ := σ) (fun r : Int64 × Wd => some (.long r.1)) (fun r => r.2) (by decide) rfl rfl (Nat.le_of_ble_eq_true rfl) rfl hW hr (fun p e s m args below meth c E => ?_)
  unfold f_X8_chance
  refine G.aload_n E dX8_chance_0 0 rfl rfl ?_
  refine G.aload_n E dX8_chance_1 0 rfl rfl ?_
  refine G.iload_n E dX8_chance_2 1 rfl rfl ?_
  refine G.callVi (n := 1) (T := TX8) (N := 21) (C := RX8) (a := h 0) (q0 := 0) (As := [.int a0]) E dX8_chance_3 (fun _ hv => c_X8_isNode E.wf hv) gX8_chance_X8_isNode rfl rfl rfl (by decide +kernel) ⟨Nat.le_of_ble_eq_true rfl, Nat.le_of_ble_eq_true rfl⟩ (wsM_at0 _ _ _) rfl rfl (Nat.le_of_ble_eq_true rfl) ⟨Nat.le_of_ble_eq_true rfl, Nat.le_of_ble_eq_true rfl⟩ (fun v1 => ?_)
  refine G.jn (P := fun j => ∀ (v2 : Int32), G p l e (headSpec wsX8_chance rm_X8_chance).room s m args below meth c 5 0 0 D (wsM cy h) (adM h) (QM D (wsM cy h) (adM h) below args s 0 0 (fun r : Int64 × Wd => some (.long r.1)) (fun r => r.2)) 39 [(0, .ref (h 0)), (1, .int a0), (2, .int a1), (3, .int a2), (4, .int a3)] [.int v2, .ref (h 0)] σ (j v2)) ?_ (fun j39 hj39 => ?_)
  · intro v2
    refine G.putI (T := TX8) (N := 21) (C := RX8) (q0 := 0) (i := 0) (ty := .int) E dX8_chance_39 iw_X8_chance_8 tyX8 tyX8_ok nmX8 (wsM_at0 _ _ _) rfl (by decide) (List.mem_of_getElem? (i := 1) rfl) rfl (by decide +kernel) rfl rfl (Nat.le_of_ble_eq_true rfl) (wsM_set0_0 _ _ _ _) (fun s3 => ?_)
    refine G.aload_n E dX8_chance_42 0 rfl rfl ?_
    refine G.getI (T := TX8) (N := 21) (C := RX8) (q0 := 0) (i := 0) E dX8_chance_43 iw_X8_chance_8 (wsM_at0 _ _ _) rfl (by decide) rfl (List.mem_of_getElem? (i := 1) rfl) (fun v4 => ?_)
    refine G.if_le (tgt := 51) E dX8_chance_46 (by decide) ?_ ?_
    · refine G.aload_n E dX8_chance_51 0 rfl rfl ?_
      refine G.iconst (v := 5) E dX8_chance_52 (by decide) ?_
      refine G.iload_n E dX8_chance_53 2 rfl rfl ?_
      refine G.iload_n E dX8_chance_54 3 rfl rfl ?_
      refine G.iload_n E dX8_chance_55 1 rfl rfl ?_
      refine G.callVls (n := 4) (T := TX8) (N := 21) (C := RX8) (a := h 0) (q0 := 0) (As := [.int 5, .int a1, .int a2, .int a0]) E dX8_chance_56 (fun _ _ hv => c_X8_counts E.wf hv) gX8_chance_X8_counts rfl rfl rfl (by decide +kernel) ⟨Nat.le_of_ble_eq_true rfl, Nat.le_of_ble_eq_true rfl⟩ (wsM_at0 _ _ _) rfl rfl (Nat.le_of_ble_eq_true rfl) ⟨Nat.le_of_ble_eq_true rfl, Nat.le_of_ble_eq_true rfl⟩ (fun v5 s6 => ?_)
      refine G.aload_n E dX8_chance_59 0 rfl rfl ?_
      refine G.iconst (v := 4) E dX8_chance_60 (by decide) ?_
      refine G.iload_n E dX8_chance_61 2 rfl rfl ?_
      refine G.iload_n E dX8_chance_62 3 rfl rfl ?_
      refine G.iconst (v := 0) E dX8_chance_63 (by decide) ?_
      refine G.callVls (n := 4) (T := TX8) (N := 21) (C := RX8) (a := h 0) (q0 := 0) (As := [.int 4, .int a1, .int a2, .int 0]) E dX8_chance_64 (fun _ _ hv => c_X8_counts E.wf hv) gX8_chance_X8_counts rfl rfl rfl (by decide +kernel) ⟨Nat.le_of_ble_eq_true rfl, Nat.le_of_ble_eq_true rfl⟩ (wsM_at0 _ _ _) rfl rfl (Nat.le_of_ble_eq_true rfl) ⟨Nat.le_of_ble_eq_true rfl, Nat.le_of_ble_eq_true rfl⟩ (fun v7 s8 => ?_)
      refine G.iload E dX8_chance_67 4 rfl ?_
      refine G.callSl (n := 3) (As := [.long v5, .long v7, .int a3]) E dX8_chance_69 (fun _ hv => c_X8_part E.wf hv) gX8_chance_X8_part rfl rfl rfl (by decide +kernel) ⟨Nat.le_of_ble_eq_true rfl, Nat.le_of_ble_eq_true rfl⟩ rfl (Nat.le_of_ble_eq_true rfl) ⟨Nat.le_of_ble_eq_true rfl, Nat.le_of_ble_eq_true rfl⟩ (fun v9 => ?_)
      exact G.lret E dX8_chance_72 rfl rfl
    · refine G.lconst (v := 0) E dX8_chance_49 (by decide) ?_
      exact G.lret E dX8_chance_50 rfl rfl
  · refine G.jn (P := fun j => ∀ (_u : Unit), G p l e (headSpec wsX8_chance rm_X8_chance).room s m args below meth c 5 0 0 D (wsM cy h) (adM h) (QM D (wsM cy h) (adM h) below args s 0 0 (fun r : Int64 × Wd => some (.long r.1)) (fun r => r.2)) 25 [(0, .ref (h 0)), (1, .int a0), (2, .int a1), (3, .int a2), (4, .int a3)] [.ref (h 0)] σ (j _u)) ?_ (fun j25 hj25 => ?_)
    · intro _u
      refine G.iconst (v := 1) E dX8_chance_25 (by decide) ?_
      refine G.goto (tgt := 39) E dX8_chance_26 (by decide) ?_
      refine G.loc [0, 1, 2, 3, 4] rfl ?_
      exact hj39 1
    · refine G.if_eq (tgt := 25) E dX8_chance_6 (by decide) ?_ ?_
      · refine G.loc [0, 1, 2, 3, 4] rfl ?_
        exact hj25 ()
      · refine G.aload_n E dX8_chance_9 0 rfl rfl ?_
        refine G.iload_n E dX8_chance_10 2 rfl rfl ?_
        refine G.callVi (n := 1) (T := TX8) (N := 21) (C := RX8) (a := h 0) (q0 := 0) (As := [.int a1]) E dX8_chance_11 (fun _ hv => c_X8_isNode E.wf hv) gX8_chance_X8_isNode rfl rfl rfl (by decide +kernel) ⟨Nat.le_of_ble_eq_true rfl, Nat.le_of_ble_eq_true rfl⟩ (wsM_at0 _ _ _) rfl rfl (Nat.le_of_ble_eq_true rfl) ⟨Nat.le_of_ble_eq_true rfl, Nat.le_of_ble_eq_true rfl⟩ (fun v10 => ?_)
        refine G.if_eq (tgt := 25) E dX8_chance_14 (by decide) ?_ ?_
        · refine G.loc [0, 1, 2, 3, 4] rfl ?_
          exact hj25 ()
        · refine G.aload_n E dX8_chance_17 0 rfl rfl ?_
          refine G.iload_n E dX8_chance_18 3 rfl rfl ?_
          refine G.callVi (n := 1) (T := TX8) (N := 21) (C := RX8) (a := h 0) (q0 := 0) (As := [.int a2]) E dX8_chance_19 (fun _ hv => c_X8_isNode E.wf hv) gX8_chance_X8_isNode rfl rfl rfl (by decide +kernel) ⟨Nat.le_of_ble_eq_true rfl, Nat.le_of_ble_eq_true rfl⟩ (wsM_at0 _ _ _) rfl rfl (Nat.le_of_ble_eq_true rfl) ⟨Nat.le_of_ble_eq_true rfl, Nat.le_of_ble_eq_true rfl⟩ (fun v11 => ?_)
          refine G.if_ne (tgt := 29) E dX8_chance_22 (by decide) ?_ ?_
          · refine G.loc [0, 1, 2, 3, 4] rfl ?_
            exact hj25 ()
          · refine G.iload_n E dX8_chance_29 2 rfl rfl ?_
            refine G.iload_n E dX8_chance_30 3 rfl rfl ?_
            refine G.icmp_ne (tgt := 38) E dX8_chance_31 (by decide) ?_ ?_
            · refine G.iconst (v := 2) E dX8_chance_34 (by decide) ?_
              refine G.goto (tgt := 39) E dX8_chance_35 (by decide) ?_
              refine G.loc [0, 1, 2, 3, 4] rfl ?_
              exact hj39 2
            · refine G.iconst (v := 0) E dX8_chance_38 (by decide) ?_
              refine G.loc [0, 1, 2, 3, 4] rfl ?_
              exact hj39 0
set_option maxHeartbeats 4000000 in
set_option maxRecDepth 100000 in
theorem iw_X8_currentTimes_8 : ∀ w ∈ u_ws RX8 TX8 21, w ∈ wsX8_currentTimes := fun _ h => List.mem_cons_of_mem _ (List.mem_append_right _ h)
abbrev rm_X8_currentTimes : Room := { frames := 5, cells := 0, slots := 0, locals := 122 }
noncomputable def fl_X8_currentTimes_5 {ρ : Type} (N : Nat) (x1 : Int32) (K : Int64 → Wd → Option ρ) : Nat → Int64 → Int32 → Wd → Option ρ
  | 0, _, _, _ => none
  | n + 1, x2, x4, s0 =>
    if 7 ≤ x4 then (
      K x2 s0)
    else (
      bP (f_X8_isEdge N s0 x4) fun v1 =>
      jn (fun (v2 : Int64) (s3 : Wd) => ((
        lL (x2 + v2) fun v4 =>
        fl_X8_currentTimes_5 N x1 K n v4 (x4 + 1) s3) : Option (ρ))) fun j57 =>
      jn (fun (_u : Unit) => ((
        j57 0 s0) : Option (ρ))) fun j56 =>
      if v1 = 0 then (
        j56 ())
      else (
        if x4 = x1 then (
          j56 ())
        else (
          rI s0 4 7 x1 fun v5 =>
          rI s0 4 7 x4 fun v6 =>
          bS (f_X8_counts N s0 2 x1 x4 0) fun v7 s8 =>
          j57 ((Int32.toInt64 (v5 - v6)) * v7) s8)))
set_option maxHeartbeats 4000000 in
set_option maxRecDepth 100000 in
theorem gl_X8_currentTimes_5 {ρ : Type} {Q : ρ → State → Prop} {N : Nat} {x1 : Int32} {K : Int64 → Wd → Option ρ} (E : EV p s m args meth c cX8_currentTimes 5 RX8 wsX8_currentTimes (some .long) D cy (wsM cy h) (adM h)) (hK : ∀ (x2' : Int64) (s' : Wd), G p l e (headSpec wsX8_currentTimes rm_X8_currentTimes).room s m args below meth c 5 0 0 D (wsM cy h) (adM h) Q 65 [(2, .long (x2'))] [] s' (K x2' s')) :
  ∀ (n : Nat) (x2 : Int64) (x4 : Int32) (s0 : Wd), G p l e (headSpec wsX8_currentTimes rm_X8_currentTimes).room s m args below meth c 5 0 0 D (wsM cy h) (adM h) Q 5 [(0, .ref (h 0)), (1, .int x1), (2, .long x2), (4, .int x4)] [] s0 (fl_X8_currentTimes_5 N x1 K n x2 x4 s0) := by
  intro n
  induction n with
  | zero => intros; exact G.no
  | succ n ih =>
    intro x2 x4 s0
    rw [fl_X8_currentTimes_5]
    refine G.iload E dX8_currentTimes_5 3 rfl ?_
    refine G.bipush (v := 7) E dX8_currentTimes_7 (by decide) ?_
    refine G.icmp_ge (tgt := 65) E dX8_currentTimes_9 (by decide) ?_ ?_
    · refine G.loc [2] rfl ?_
      exact hK x2 s0
    · refine G.lload_n E dX8_currentTimes_12 2 rfl rfl ?_
      refine G.aload_n E dX8_currentTimes_13 0 rfl rfl ?_
      refine G.iload E dX8_currentTimes_14 3 rfl ?_
      refine G.callVi (n := 1) (T := TX8) (N := 21) (C := RX8) (a := h 0) (q0 := 0) (As := [.int x4]) E dX8_currentTimes_16 (fun _ hv => c_X8_isEdge E.wf hv) gX8_currentTimes_X8_isEdge rfl rfl rfl (by decide +kernel) ⟨Nat.le_of_ble_eq_true rfl, Nat.le_of_ble_eq_true rfl⟩ (wsM_at0 _ _ _) rfl rfl (Nat.le_of_ble_eq_true rfl) ⟨Nat.le_of_ble_eq_true rfl, Nat.le_of_ble_eq_true rfl⟩ (fun v1 => ?_)
      refine G.jn (P := fun j => ∀ (v2 : Int64) (s3 : Wd), G p l e (headSpec wsX8_currentTimes rm_X8_currentTimes).room s m args below meth c 5 0 0 D (wsM cy h) (adM h) Q 57 [(0, .ref (h 0)), (1, .int x1), (4, .int x4)] [.long v2, .long x2] s3 (j v2 s3)) ?_ (fun j57 hj57 => ?_)
      · intro v2 s3
        refine G.ladd E dX8_currentTimes_57 ?_
        refine G.letL (fun v4 => ?_)
        refine G.lstore_n (lv' := [(2, .long v4), (0, .ref (h 0)), (1, .int x1), (4, .int x4)]) E dX8_currentTimes_58 rfl (by decide) rfl ?_
        refine G.iinc (v := x4 + 1) (lv' := [(4, .int (x4 + 1)), (2, .long v4), (0, .ref (h 0)), (1, .int x1)]) E dX8_currentTimes_59 3 rfl rfl (by decide) rfl ?_
        refine G.goto (tgt := 5) E dX8_currentTimes_62 (by decide) ?_
        refine G.loc [2, 3, 1, 0] rfl ?_
        exact ih v4 (x4 + 1) s3
      · refine G.jn (P := fun j => ∀ (_u : Unit), G p l e (headSpec wsX8_currentTimes rm_X8_currentTimes).room s m args below meth c 5 0 0 D (wsM cy h) (adM h) Q 56 [(0, .ref (h 0)), (1, .int x1), (4, .int x4)] [.long x2] s0 (j _u)) ?_ (fun j56 hj56 => ?_)
        · intro _u
          refine G.lconst (v := 0) E dX8_currentTimes_56 (by decide) ?_
          refine G.loc [0, 1, 2] rfl ?_
          exact hj57 0 s0
        · refine G.if_eq (tgt := 56) E dX8_currentTimes_19 (by decide) ?_ ?_
          · refine G.loc [0, 1, 3] rfl ?_
            exact hj56 ()
          · refine G.iload E dX8_currentTimes_22 3 rfl ?_
            refine G.iload_n E dX8_currentTimes_24 1 rfl rfl ?_
            refine G.icmp_eq (tgt := 56) E dX8_currentTimes_25 (by decide) ?_ ?_
            · refine G.loc [0, 1, 3] rfl ?_
              exact hj56 ()
            · refine G.aload_n E dX8_currentTimes_28 0 rfl rfl ?_
              refine G.getR (T := TX8) (N := 21) (C := RX8) (q0 := 0) (i := 9) E dX8_currentTimes_29 iw_X8_currentTimes_8 (wsM_at0 _ _ _) rfl (by decide) rfl (List.mem_of_getElem? (i := 1) rfl) ?_
              refine G.iload_n E dX8_currentTimes_32 1 rfl rfl ?_
              refine G.iald (q0 := 4) E dX8_currentTimes_33 (wsM_at4 _ _ _) (fun v5 => ?_)
              refine G.aload_n E dX8_currentTimes_34 0 rfl rfl ?_
              refine G.getR (T := TX8) (N := 21) (C := RX8) (q0 := 0) (i := 9) E dX8_currentTimes_35 iw_X8_currentTimes_8 (wsM_at0 _ _ _) rfl (by decide) rfl (List.mem_of_getElem? (i := 1) rfl) ?_
              refine G.iload E dX8_currentTimes_38 3 rfl ?_
              refine G.iald (q0 := 4) E dX8_currentTimes_40 (wsM_at4 _ _ _) (fun v6 => ?_)
              refine G.isub E dX8_currentTimes_41 ?_
              refine G.i2l E dX8_currentTimes_42 ?_
              refine G.aload_n E dX8_currentTimes_43 0 rfl rfl ?_
              refine G.iconst (v := 2) E dX8_currentTimes_44 (by decide) ?_
              refine G.iload_n E dX8_currentTimes_45 1 rfl rfl ?_
              refine G.iload E dX8_currentTimes_46 3 rfl ?_
              refine G.iconst (v := 0) E dX8_currentTimes_48 (by decide) ?_
              refine G.callVls (n := 4) (T := TX8) (N := 21) (C := RX8) (a := h 0) (q0 := 0) (As := [.int 2, .int x1, .int x4, .int 0]) E dX8_currentTimes_49 (fun _ _ hv => c_X8_counts E.wf hv) gX8_currentTimes_X8_counts rfl rfl rfl (by decide +kernel) ⟨Nat.le_of_ble_eq_true rfl, Nat.le_of_ble_eq_true rfl⟩ (wsM_at0 _ _ _) rfl rfl (Nat.le_of_ble_eq_true rfl) ⟨Nat.le_of_ble_eq_true rfl, Nat.le_of_ble_eq_true rfl⟩ (fun v7 s8 => ?_)
              refine G.lmul E dX8_currentTimes_52 ?_
              refine G.goto (tgt := 57) E dX8_currentTimes_53 (by decide) ?_
              refine G.loc [0, 1, 3] rfl ?_
              exact hj57 ((Int32.toInt64 (v5 - v6)) * v7) s8
noncomputable def f_X8_currentTimes (N : Nat) (σ : Wd) (a0 : Int32) : Option (Int64 × Wd) :=
  fl_X8_currentTimes_5 N a0 (fun v9 s10 =>
    some (v9, s10)) N 0 0 σ
set_option maxHeartbeats 4000000 in
set_option maxRecDepth 100000 in
theorem c_X8_currentTimes {l : Launch} {D : va_G} {cy : Nat → ClassId} {h : Nat → Nat} {N : Nat} {σ : Wd} {a0 : Int32} {r : Int64} {σ1 : Wd} (hW : WF (wsM cy h) (adM h)) (hr : f_X8_currentTimes N σ a0 = some (r, σ1)) : Con l D cy (wsM cy h) (adM h) yX8_currentTimes wsX8_currentTimes rm_X8_currentTimes 0 0 [.ref (h 0), .int a0] (some (.long r)) σ σ1 := by
  refine Con.of (ρ := Int64 × Wd) (lv0 := [(0, .ref (h 0)), (1, .int a0)]) (σ := σ) (fun r : Int64 × Wd => some (.long r.1)) (fun r => r.2) (by decide) rfl rfl (Nat.le_of_ble_eq_true rfl) rfl hW hr (fun p e s m args below meth c E => ?_)
  unfold f_X8_currentTimes
  refine G.lconst (v := 0) E dX8_currentTimes_0 (by decide) ?_
  refine G.lstore_n (lv' := [(2, .long 0), (0, .ref (h 0)), (1, .int a0)]) E dX8_currentTimes_1 rfl (by decide) rfl ?_
  refine G.iconst (v := 0) E dX8_currentTimes_2 (by decide) ?_
  refine G.istore (lv' := [(4, .int 0), (2, .long 0), (0, .ref (h 0)), (1, .int a0)]) E dX8_currentTimes_3 (by decide) rfl ?_
  refine G.loc [2, 3, 1, 0] rfl ?_
  refine gl_X8_currentTimes_5 E (fun v9 s10 => ?_) N _ _ _
  refine G.lload_n E dX8_currentTimes_65 0 rfl rfl ?_
  exact G.lret E dX8_currentTimes_66 rfl rfl
set_option maxHeartbeats 4000000 in
set_option maxRecDepth 100000 in
theorem iw_X8_current_8 : ∀ w ∈ u_ws RX8 TX8 21, w ∈ wsX8_current := fun _ h => List.mem_cons_of_mem _ (List.mem_append_right _ h)
abbrev rm_X8_current : Room := { frames := 6, cells := 0, slots := 0, locals := 146 }
noncomputable def f_X8_current (N : Nat) (σ : Wd) (a0 : Int32) (a1 : Int32) : Option (Int64 × Wd) :=
  bP (f_X8_isEdge N σ a0) fun v1 =>
  jn (fun (v2 : Int32) => ((
    wI σ 0 0 v2 fun s3 =>
    gI s3 0 0 fun v4 =>
    if v4 ≤ 0 then (
      bS (f_X8_currentTimes N s3 a0) fun v5 s6 =>
      bS (f_X8_counts N s6 1 0 0 0) fun v7 s8 =>
      bP (f_X8_part N v5 v7 a1) fun v9 =>
      some (v9, s8))
    else (
      some (0, s3))) : Option (Int64 × Wd))) fun j14 =>
  if v1 = 0 then (
    j14 1)
  else (
    j14 0)
set_option maxHeartbeats 4000000 in
set_option maxRecDepth 100000 in
theorem c_X8_current {l : Launch} {D : va_G} {cy : Nat → ClassId} {h : Nat → Nat} {N : Nat} {σ : Wd} {a0 : Int32} {a1 : Int32} {r : Int64} {σ1 : Wd} (hW : WF (wsM cy h) (adM h)) (hr : f_X8_current N σ a0 a1 = some (r, σ1)) : Con l D cy (wsM cy h) (adM h) yX8_current wsX8_current rm_X8_current 0 0 [.ref (h 0), .int a0, .int a1] (some (.long r)) σ σ1 := by
  refine Con.of (ρ := Int64 × Wd) (lv0 := [(0, .ref (h 0)), (1, .int a0), (2, .int a1)]) (σ := σ) (fun r : Int64 × Wd => some (.long r.1)) (fun r => r.2) (by decide) rfl rfl (Nat.le_of_ble_eq_true rfl) rfl hW hr (fun p e s m args below meth c E => ?_)
  unfold f_X8_current
  refine G.aload_n E dX8_current_0 0 rfl rfl ?_
  refine G.aload_n E dX8_current_1 0 rfl rfl ?_
  refine G.iload_n E dX8_current_2 1 rfl rfl ?_
  refine G.callVi (n := 1) (T := TX8) (N := 21) (C := RX8) (a := h 0) (q0 := 0) (As := [.int a0]) E dX8_current_3 (fun _ hv => c_X8_isEdge E.wf hv) gX8_current_X8_isEdge rfl rfl rfl (by decide +kernel) ⟨Nat.le_of_ble_eq_true rfl, Nat.le_of_ble_eq_true rfl⟩ (wsM_at0 _ _ _) rfl rfl (Nat.le_of_ble_eq_true rfl) ⟨Nat.le_of_ble_eq_true rfl, Nat.le_of_ble_eq_true rfl⟩ (fun v1 => ?_)
  refine G.jn (P := fun j => ∀ (v2 : Int32), G p l e (headSpec wsX8_current rm_X8_current).room s m args below meth c 3 0 0 D (wsM cy h) (adM h) (QM D (wsM cy h) (adM h) below args s 0 0 (fun r : Int64 × Wd => some (.long r.1)) (fun r => r.2)) 14 [(0, .ref (h 0)), (1, .int a0), (2, .int a1)] [.int v2, .ref (h 0)] σ (j v2)) ?_ (fun j14 hj14 => ?_)
  · intro v2
    refine G.putI (T := TX8) (N := 21) (C := RX8) (q0 := 0) (i := 0) (ty := .int) E dX8_current_14 iw_X8_current_8 tyX8 tyX8_ok nmX8 (wsM_at0 _ _ _) rfl (by decide) (List.mem_of_getElem? (i := 1) rfl) rfl (by decide +kernel) rfl rfl (Nat.le_of_ble_eq_true rfl) (wsM_set0_0 _ _ _ _) (fun s3 => ?_)
    refine G.aload_n E dX8_current_17 0 rfl rfl ?_
    refine G.getI (T := TX8) (N := 21) (C := RX8) (q0 := 0) (i := 0) E dX8_current_18 iw_X8_current_8 (wsM_at0 _ _ _) rfl (by decide) rfl (List.mem_of_getElem? (i := 1) rfl) (fun v4 => ?_)
    refine G.if_le (tgt := 28) E dX8_current_21 (by decide) ?_ ?_
    · refine G.aload_n E dX8_current_28 0 rfl rfl ?_
      refine G.iload_n E dX8_current_29 1 rfl rfl ?_
      refine G.callVls (n := 1) (T := TX8) (N := 21) (C := RX8) (a := h 0) (q0 := 0) (As := [.int a0]) E dX8_current_30 (fun _ _ hv => c_X8_currentTimes E.wf hv) gX8_current_X8_currentTimes rfl rfl rfl (by decide +kernel) ⟨Nat.le_of_ble_eq_true rfl, Nat.le_of_ble_eq_true rfl⟩ (wsM_at0 _ _ _) rfl rfl (Nat.le_of_ble_eq_true rfl) ⟨Nat.le_of_ble_eq_true rfl, Nat.le_of_ble_eq_true rfl⟩ (fun v5 s6 => ?_)
      refine G.aload_n E dX8_current_33 0 rfl rfl ?_
      refine G.iconst (v := 1) E dX8_current_34 (by decide) ?_
      refine G.iconst (v := 0) E dX8_current_35 (by decide) ?_
      refine G.iconst (v := 0) E dX8_current_36 (by decide) ?_
      refine G.iconst (v := 0) E dX8_current_37 (by decide) ?_
      refine G.callVls (n := 4) (T := TX8) (N := 21) (C := RX8) (a := h 0) (q0 := 0) (As := [.int 1, .int 0, .int 0, .int 0]) E dX8_current_38 (fun _ _ hv => c_X8_counts E.wf hv) gX8_current_X8_counts rfl rfl rfl (by decide +kernel) ⟨Nat.le_of_ble_eq_true rfl, Nat.le_of_ble_eq_true rfl⟩ (wsM_at0 _ _ _) rfl rfl (Nat.le_of_ble_eq_true rfl) ⟨Nat.le_of_ble_eq_true rfl, Nat.le_of_ble_eq_true rfl⟩ (fun v7 s8 => ?_)
      refine G.iload_n E dX8_current_41 2 rfl rfl ?_
      refine G.callSl (n := 3) (As := [.long v5, .long v7, .int a1]) E dX8_current_42 (fun _ hv => c_X8_part E.wf hv) gX8_current_X8_part rfl rfl rfl (by decide +kernel) ⟨Nat.le_of_ble_eq_true rfl, Nat.le_of_ble_eq_true rfl⟩ rfl (Nat.le_of_ble_eq_true rfl) ⟨Nat.le_of_ble_eq_true rfl, Nat.le_of_ble_eq_true rfl⟩ (fun v9 => ?_)
      exact G.lret E dX8_current_45 rfl rfl
    · refine G.lconst (v := 0) E dX8_current_24 (by decide) ?_
      refine G.goto (tgt := 45) E dX8_current_25 (by decide) ?_
      exact G.lret E dX8_current_45 rfl rfl
  · refine G.if_eq (tgt := 13) E dX8_current_6 (by decide) ?_ ?_
    · refine G.iconst (v := 1) E dX8_current_13 (by decide) ?_
      refine G.loc [0, 1, 2] rfl ?_
      exact hj14 1
    · refine G.iconst (v := 0) E dX8_current_9 (by decide) ?_
      refine G.goto (tgt := 14) E dX8_current_10 (by decide) ?_
      refine G.loc [0, 1, 2] rfl ?_
      exact hj14 0
set_option maxHeartbeats 4000000 in
set_option maxRecDepth 100000 in
theorem iw_X8_distance_8 : ∀ w ∈ u_ws RX8 TX8 21, w ∈ wsX8_distance := fun _ h => List.mem_cons_of_mem _ (List.mem_append_right _ h)
abbrev rm_X8_distance : Room := { frames := 5, cells := 0, slots := 0, locals := 122 }
noncomputable def f_X8_distance (N : Nat) (σ : Wd) (a0 : Int32) (a1 : Int32) (a2 : Int32) : Option (Int64 × Wd) :=
  bP (f_X8_isNode N σ a0) fun v1 =>
  jn (fun (v2 : Int32) => ((
    wI σ 0 0 v2 fun s3 =>
    gI s3 0 0 fun v4 =>
    if v4 ≤ 0 then (
      if a0 = a1 then (
        if a2 = 0 then (
          some (0, s3))
        else (
          some (1, s3)))
      else (
        bS (f_X8_counts N s3 4 a0 a1 0) fun v5 s6 =>
        bS (f_X8_counts N s6 0 0 0 0) fun v7 s8 =>
        bP (f_X8_part N v5 v7 a2) fun v9 =>
        some (v9, s8)))
    else (
      some (0, s3))) : Option (Int64 × Wd))) fun j22 =>
  jn (fun (_u : Unit) => ((
    j22 1) : Option (Int64 × Wd))) fun j21 =>
  if v1 = 0 then (
    j21 ())
  else (
    bP (f_X8_isNode N σ a1) fun v10 =>
    if v10 = 0 then (
      j21 ())
    else (
      j22 0))
set_option maxHeartbeats 4000000 in
set_option maxRecDepth 100000 in
theorem c_X8_distance {l : Launch} {D : va_G} {cy : Nat → ClassId} {h : Nat → Nat} {N : Nat} {σ : Wd} {a0 : Int32} {a1 : Int32} {a2 : Int32} {r : Int64} {σ1 : Wd} (hW : WF (wsM cy h) (adM h)) (hr : f_X8_distance N σ a0 a1 a2 = some (r, σ1)) : Con l D cy (wsM cy h) (adM h) yX8_distance wsX8_distance rm_X8_distance 0 0 [.ref (h 0), .int a0, .int a1, .int a2] (some (.long r)) σ σ1 := by
  refine Con.of (ρ := Int64 × Wd) (lv0 := [(0, .ref (h 0)), (1, .int a0), (2, .int a1), (3, .int a2)]) (σ := σ) (fun r : Int64 × Wd => some (.long r.1)) (fun r => r.2) (by decide) rfl rfl (Nat.le_of_ble_eq_true rfl) rfl hW hr (fun p e s m args below meth c E => ?_)
  unfold f_X8_distance
  refine G.aload_n E dX8_distance_0 0 rfl rfl ?_
  refine G.aload_n E dX8_distance_1 0 rfl rfl ?_
  refine G.iload_n E dX8_distance_2 1 rfl rfl ?_
  refine G.callVi (n := 1) (T := TX8) (N := 21) (C := RX8) (a := h 0) (q0 := 0) (As := [.int a0]) E dX8_distance_3 (fun _ hv => c_X8_isNode E.wf hv) gX8_distance_X8_isNode rfl rfl rfl (by decide +kernel) ⟨Nat.le_of_ble_eq_true rfl, Nat.le_of_ble_eq_true rfl⟩ (wsM_at0 _ _ _) rfl rfl (Nat.le_of_ble_eq_true rfl) ⟨Nat.le_of_ble_eq_true rfl, Nat.le_of_ble_eq_true rfl⟩ (fun v1 => ?_)
  refine G.jn (P := fun j => ∀ (v2 : Int32), G p l e (headSpec wsX8_distance rm_X8_distance).room s m args below meth c 4 0 0 D (wsM cy h) (adM h) (QM D (wsM cy h) (adM h) below args s 0 0 (fun r : Int64 × Wd => some (.long r.1)) (fun r => r.2)) 22 [(0, .ref (h 0)), (1, .int a0), (2, .int a1), (3, .int a2)] [.int v2, .ref (h 0)] σ (j v2)) ?_ (fun j22 hj22 => ?_)
  · intro v2
    refine G.putI (T := TX8) (N := 21) (C := RX8) (q0 := 0) (i := 0) (ty := .int) E dX8_distance_22 iw_X8_distance_8 tyX8 tyX8_ok nmX8 (wsM_at0 _ _ _) rfl (by decide) (List.mem_of_getElem? (i := 1) rfl) rfl (by decide +kernel) rfl rfl (Nat.le_of_ble_eq_true rfl) (wsM_set0_0 _ _ _ _) (fun s3 => ?_)
    refine G.aload_n E dX8_distance_25 0 rfl rfl ?_
    refine G.getI (T := TX8) (N := 21) (C := RX8) (q0 := 0) (i := 0) E dX8_distance_26 iw_X8_distance_8 (wsM_at0 _ _ _) rfl (by decide) rfl (List.mem_of_getElem? (i := 1) rfl) (fun v4 => ?_)
    refine G.if_le (tgt := 34) E dX8_distance_29 (by decide) ?_ ?_
    · refine G.iload_n E dX8_distance_34 1 rfl rfl ?_
      refine G.iload_n E dX8_distance_35 2 rfl rfl ?_
      refine G.icmp_ne (tgt := 51) E dX8_distance_36 (by decide) ?_ ?_
      · refine G.iload_n E dX8_distance_39 3 rfl rfl ?_
        refine G.if_eq (tgt := 47) E dX8_distance_40 (by decide) ?_ ?_
        · refine G.lconst (v := 0) E dX8_distance_47 (by decide) ?_
          refine G.goto (tgt := 71) E dX8_distance_48 (by decide) ?_
          exact G.lret E dX8_distance_71 rfl rfl
        · refine G.lconst (v := 1) E dX8_distance_43 (by decide) ?_
          refine G.goto (tgt := 71) E dX8_distance_44 (by decide) ?_
          exact G.lret E dX8_distance_71 rfl rfl
      · refine G.aload_n E dX8_distance_51 0 rfl rfl ?_
        refine G.iconst (v := 4) E dX8_distance_52 (by decide) ?_
        refine G.iload_n E dX8_distance_53 1 rfl rfl ?_
        refine G.iload_n E dX8_distance_54 2 rfl rfl ?_
        refine G.iconst (v := 0) E dX8_distance_55 (by decide) ?_
        refine G.callVls (n := 4) (T := TX8) (N := 21) (C := RX8) (a := h 0) (q0 := 0) (As := [.int 4, .int a0, .int a1, .int 0]) E dX8_distance_56 (fun _ _ hv => c_X8_counts E.wf hv) gX8_distance_X8_counts rfl rfl rfl (by decide +kernel) ⟨Nat.le_of_ble_eq_true rfl, Nat.le_of_ble_eq_true rfl⟩ (wsM_at0 _ _ _) rfl rfl (Nat.le_of_ble_eq_true rfl) ⟨Nat.le_of_ble_eq_true rfl, Nat.le_of_ble_eq_true rfl⟩ (fun v5 s6 => ?_)
        refine G.aload_n E dX8_distance_59 0 rfl rfl ?_
        refine G.iconst (v := 0) E dX8_distance_60 (by decide) ?_
        refine G.iconst (v := 0) E dX8_distance_61 (by decide) ?_
        refine G.iconst (v := 0) E dX8_distance_62 (by decide) ?_
        refine G.iconst (v := 0) E dX8_distance_63 (by decide) ?_
        refine G.callVls (n := 4) (T := TX8) (N := 21) (C := RX8) (a := h 0) (q0 := 0) (As := [.int 0, .int 0, .int 0, .int 0]) E dX8_distance_64 (fun _ _ hv => c_X8_counts E.wf hv) gX8_distance_X8_counts rfl rfl rfl (by decide +kernel) ⟨Nat.le_of_ble_eq_true rfl, Nat.le_of_ble_eq_true rfl⟩ (wsM_at0 _ _ _) rfl rfl (Nat.le_of_ble_eq_true rfl) ⟨Nat.le_of_ble_eq_true rfl, Nat.le_of_ble_eq_true rfl⟩ (fun v7 s8 => ?_)
        refine G.iload_n E dX8_distance_67 3 rfl rfl ?_
        refine G.callSl (n := 3) (As := [.long v5, .long v7, .int a2]) E dX8_distance_68 (fun _ hv => c_X8_part E.wf hv) gX8_distance_X8_part rfl rfl rfl (by decide +kernel) ⟨Nat.le_of_ble_eq_true rfl, Nat.le_of_ble_eq_true rfl⟩ rfl (Nat.le_of_ble_eq_true rfl) ⟨Nat.le_of_ble_eq_true rfl, Nat.le_of_ble_eq_true rfl⟩ (fun v9 => ?_)
        exact G.lret E dX8_distance_71 rfl rfl
    · refine G.lconst (v := 0) E dX8_distance_32 (by decide) ?_
      exact G.lret E dX8_distance_33 rfl rfl
  · refine G.jn (P := fun j => ∀ (_u : Unit), G p l e (headSpec wsX8_distance rm_X8_distance).room s m args below meth c 4 0 0 D (wsM cy h) (adM h) (QM D (wsM cy h) (adM h) below args s 0 0 (fun r : Int64 × Wd => some (.long r.1)) (fun r => r.2)) 21 [(0, .ref (h 0)), (1, .int a0), (2, .int a1), (3, .int a2)] [.ref (h 0)] σ (j _u)) ?_ (fun j21 hj21 => ?_)
    · intro _u
      refine G.iconst (v := 1) E dX8_distance_21 (by decide) ?_
      refine G.loc [0, 1, 2, 3] rfl ?_
      exact hj22 1
    · refine G.if_eq (tgt := 21) E dX8_distance_6 (by decide) ?_ ?_
      · refine G.loc [0, 1, 2, 3] rfl ?_
        exact hj21 ()
      · refine G.aload_n E dX8_distance_9 0 rfl rfl ?_
        refine G.iload_n E dX8_distance_10 2 rfl rfl ?_
        refine G.callVi (n := 1) (T := TX8) (N := 21) (C := RX8) (a := h 0) (q0 := 0) (As := [.int a1]) E dX8_distance_11 (fun _ hv => c_X8_isNode E.wf hv) gX8_distance_X8_isNode rfl rfl rfl (by decide +kernel) ⟨Nat.le_of_ble_eq_true rfl, Nat.le_of_ble_eq_true rfl⟩ (wsM_at0 _ _ _) rfl rfl (Nat.le_of_ble_eq_true rfl) ⟨Nat.le_of_ble_eq_true rfl, Nat.le_of_ble_eq_true rfl⟩ (fun v10 => ?_)
        refine G.if_eq (tgt := 21) E dX8_distance_14 (by decide) ?_ ?_
        · refine G.loc [0, 1, 2, 3] rfl ?_
          exact hj21 ()
        · refine G.iconst (v := 0) E dX8_distance_17 (by decide) ?_
          refine G.goto (tgt := 22) E dX8_distance_18 (by decide) ?_
          refine G.loc [0, 1, 2, 3] rfl ?_
          exact hj22 0
set_option maxHeartbeats 4000000 in
set_option maxRecDepth 100000 in
theorem iw_X8_keepsNetwork_8 : ∀ w ∈ u_ws RX8 TX8 21, w ∈ wsX8_keepsNetwork := fun _ h => List.mem_cons_of_mem _ (List.mem_append_right _ h)
abbrev rm_X8_keepsNetwork : Room := { frames := 0, cells := 0, slots := 0, locals := 0 }
noncomputable def fl_X8_keepsNetwork_68 {ρ : Type} (N : Nat) (x1 : Int32) (K : Wd → Option ρ) : Nat → Int32 → Wd → Option ρ
  | 0, _, _ => none
  | n + 1, x2, s0 =>
    if 20 ≤ x2 then (
      K s0)
    else (
      rI s0 3 20 x2 fun v13 =>
      aI s0 5 1500 ((x1 + 5) + x2) v13 fun s14 =>
      fl_X8_keepsNetwork_68 N x1 K n (x2 + 1) s14)
set_option maxHeartbeats 4000000 in
set_option maxRecDepth 100000 in
theorem gl_X8_keepsNetwork_68 {ρ : Type} {Q : ρ → State → Prop} {N : Nat} {x1 : Int32} {K : Wd → Option ρ} (E : EV p s m args meth c cX8_keepsNetwork 3 RX8 wsX8_keepsNetwork none D cy (wsM cy h) (adM h)) (hK : ∀ (s' : Wd), G p l e (headSpec wsX8_keepsNetwork rm_X8_keepsNetwork).room s m args below meth c 3 0 0 D (wsM cy h) (adM h) Q 96 [(0, .ref (h 0))] [] s' (K s')) :
  ∀ (n : Nat) (x2 : Int32) (s0 : Wd), G p l e (headSpec wsX8_keepsNetwork rm_X8_keepsNetwork).room s m args below meth c 3 0 0 D (wsM cy h) (adM h) Q 68 [(0, .ref (h 0)), (1, .int x1), (2, .int x2)] [] s0 (fl_X8_keepsNetwork_68 N x1 K n x2 s0) := by
  intro n
  induction n with
  | zero => intros; exact G.no
  | succ n ih =>
    intro x2 s0
    rw [fl_X8_keepsNetwork_68]
    refine G.iload_n E dX8_keepsNetwork_68 2 rfl rfl ?_
    refine G.bipush (v := 20) E dX8_keepsNetwork_69 (by decide) ?_
    refine G.icmp_ge (tgt := 96) E dX8_keepsNetwork_71 (by decide) ?_ ?_
    · refine G.loc [0] rfl ?_
      exact hK s0
    · refine G.aload_n E dX8_keepsNetwork_74 0 rfl rfl ?_
      refine G.getR (T := TX8) (N := 21) (C := RX8) (q0 := 0) (i := 11) E dX8_keepsNetwork_75 iw_X8_keepsNetwork_8 (wsM_at0 _ _ _) rfl (by decide) rfl (List.mem_of_getElem? (i := 2) rfl) ?_
      refine G.iload_n E dX8_keepsNetwork_78 1 rfl rfl ?_
      refine G.iconst (v := 5) E dX8_keepsNetwork_79 (by decide) ?_
      refine G.iadd E dX8_keepsNetwork_80 ?_
      refine G.iload_n E dX8_keepsNetwork_81 2 rfl rfl ?_
      refine G.iadd E dX8_keepsNetwork_82 ?_
      refine G.aload_n E dX8_keepsNetwork_83 0 rfl rfl ?_
      refine G.getR (T := TX8) (N := 21) (C := RX8) (q0 := 0) (i := 8) E dX8_keepsNetwork_84 iw_X8_keepsNetwork_8 (wsM_at0 _ _ _) rfl (by decide) rfl (List.mem_of_getElem? (i := 8) rfl) ?_
      refine G.iload_n E dX8_keepsNetwork_87 2 rfl rfl ?_
      refine G.iald (q0 := 3) E dX8_keepsNetwork_88 (wsM_at3 _ _ _) (fun v13 => ?_)
      refine G.iast (q0 := 5) E dX8_keepsNetwork_89 (wsM_at5 _ _ _) (fun j => wsM_set5 _ _ _ _ j) (fun s14 => ?_)
      refine G.iinc (v := x2 + 1) (lv' := [(2, .int (x2 + 1)), (0, .ref (h 0)), (1, .int x1)]) E dX8_keepsNetwork_90 2 rfl rfl (by decide) rfl ?_
      refine G.goto (tgt := 68) E dX8_keepsNetwork_93 (by decide) ?_
      refine G.loc [1, 2, 0] rfl ?_
      exact ih (x2 + 1) s14
noncomputable def f_X8_keepsNetwork (N : Nat) (σ : Wd) : Option (Wd) :=
  gI σ 0 10 fun v1 =>
  lI (25 * v1) fun v2 =>
  gI σ 0 2 fun v3 =>
  aI σ 5 1500 v2 v3 fun s4 =>
  gI s4 0 3 fun v5 =>
  aI s4 5 1500 (v2 + 1) v5 fun s6 =>
  gI s6 0 1 fun v7 =>
  aI s6 5 1500 (v2 + 2) v7 fun s8 =>
  gI s8 0 5 fun v9 =>
  aI s8 5 1500 (v2 + 3) v9 fun s10 =>
  gI s10 0 4 fun v11 =>
  aI s10 5 1500 (v2 + 4) v11 fun s12 =>
  fl_X8_keepsNetwork_68 N v2 (fun s15 =>
    gI s15 0 10 fun v16 =>
    wI s15 0 10 (v16 + 1) fun s17 =>
    some s17) N 0 s12
set_option maxHeartbeats 4000000 in
set_option maxRecDepth 100000 in
theorem c_X8_keepsNetwork {l : Launch} {D : va_G} {cy : Nat → ClassId} {h : Nat → Nat} {N : Nat} {σ : Wd} {σ1 : Wd} (hW : WF (wsM cy h) (adM h)) (hr : f_X8_keepsNetwork N σ = some σ1) : Con l D cy (wsM cy h) (adM h) yX8_keepsNetwork wsX8_keepsNetwork rm_X8_keepsNetwork 0 0 [.ref (h 0)] (none) σ σ1 := by
  refine Con.of (ρ := Wd) (lv0 := [(0, .ref (h 0))]) (σ := σ) (fun _ : Wd => none) (fun r => r) (by decide) rfl rfl (Nat.le_of_ble_eq_true rfl) rfl hW hr (fun p e s m args below meth c E => ?_)
  unfold f_X8_keepsNetwork
  refine G.bipush (v := 25) E dX8_keepsNetwork_0 (by decide) ?_
  refine G.aload_n E dX8_keepsNetwork_2 0 rfl rfl ?_
  refine G.getI (T := TX8) (N := 21) (C := RX8) (q0 := 0) (i := 10) E dX8_keepsNetwork_3 iw_X8_keepsNetwork_8 (wsM_at0 _ _ _) rfl (by decide) rfl (List.mem_of_getElem? (i := 1) rfl) (fun v1 => ?_)
  refine G.imul E dX8_keepsNetwork_6 ?_
  refine G.letI (fun v2 => ?_)
  refine G.istore_n (lv' := [(1, .int v2), (0, .ref (h 0))]) E dX8_keepsNetwork_7 rfl (by decide) rfl ?_
  refine G.aload_n E dX8_keepsNetwork_8 1 rfl rfl ?_
  refine G.getR (T := TX8) (N := 21) (C := RX8) (q0 := 0) (i := 11) E dX8_keepsNetwork_9 iw_X8_keepsNetwork_8 (wsM_at0 _ _ _) rfl (by decide) rfl (List.mem_of_getElem? (i := 2) rfl) ?_
  refine G.iload_n E dX8_keepsNetwork_12 0 rfl rfl ?_
  refine G.aload_n E dX8_keepsNetwork_13 1 rfl rfl ?_
  refine G.getI (T := TX8) (N := 21) (C := RX8) (q0 := 0) (i := 2) E dX8_keepsNetwork_14 iw_X8_keepsNetwork_8 (wsM_at0 _ _ _) rfl (by decide) rfl (List.mem_of_getElem? (i := 3) rfl) (fun v3 => ?_)
  refine G.iast (q0 := 5) E dX8_keepsNetwork_17 (wsM_at5 _ _ _) (fun j => wsM_set5 _ _ _ _ j) (fun s4 => ?_)
  refine G.aload_n E dX8_keepsNetwork_18 1 rfl rfl ?_
  refine G.getR (T := TX8) (N := 21) (C := RX8) (q0 := 0) (i := 11) E dX8_keepsNetwork_19 iw_X8_keepsNetwork_8 (wsM_at0 _ _ _) rfl (by decide) rfl (List.mem_of_getElem? (i := 2) rfl) ?_
  refine G.iload_n E dX8_keepsNetwork_22 0 rfl rfl ?_
  refine G.iconst (v := 1) E dX8_keepsNetwork_23 (by decide) ?_
  refine G.iadd E dX8_keepsNetwork_24 ?_
  refine G.aload_n E dX8_keepsNetwork_25 1 rfl rfl ?_
  refine G.getI (T := TX8) (N := 21) (C := RX8) (q0 := 0) (i := 3) E dX8_keepsNetwork_26 iw_X8_keepsNetwork_8 (wsM_at0 _ _ _) rfl (by decide) rfl (List.mem_of_getElem? (i := 4) rfl) (fun v5 => ?_)
  refine G.iast (q0 := 5) E dX8_keepsNetwork_29 (wsM_at5 _ _ _) (fun j => wsM_set5 _ _ _ _ j) (fun s6 => ?_)
  refine G.aload_n E dX8_keepsNetwork_30 1 rfl rfl ?_
  refine G.getR (T := TX8) (N := 21) (C := RX8) (q0 := 0) (i := 11) E dX8_keepsNetwork_31 iw_X8_keepsNetwork_8 (wsM_at0 _ _ _) rfl (by decide) rfl (List.mem_of_getElem? (i := 2) rfl) ?_
  refine G.iload_n E dX8_keepsNetwork_34 0 rfl rfl ?_
  refine G.iconst (v := 2) E dX8_keepsNetwork_35 (by decide) ?_
  refine G.iadd E dX8_keepsNetwork_36 ?_
  refine G.aload_n E dX8_keepsNetwork_37 1 rfl rfl ?_
  refine G.getI (T := TX8) (N := 21) (C := RX8) (q0 := 0) (i := 1) E dX8_keepsNetwork_38 iw_X8_keepsNetwork_8 (wsM_at0 _ _ _) rfl (by decide) rfl (List.mem_of_getElem? (i := 5) rfl) (fun v7 => ?_)
  refine G.iast (q0 := 5) E dX8_keepsNetwork_41 (wsM_at5 _ _ _) (fun j => wsM_set5 _ _ _ _ j) (fun s8 => ?_)
  refine G.aload_n E dX8_keepsNetwork_42 1 rfl rfl ?_
  refine G.getR (T := TX8) (N := 21) (C := RX8) (q0 := 0) (i := 11) E dX8_keepsNetwork_43 iw_X8_keepsNetwork_8 (wsM_at0 _ _ _) rfl (by decide) rfl (List.mem_of_getElem? (i := 2) rfl) ?_
  refine G.iload_n E dX8_keepsNetwork_46 0 rfl rfl ?_
  refine G.iconst (v := 3) E dX8_keepsNetwork_47 (by decide) ?_
  refine G.iadd E dX8_keepsNetwork_48 ?_
  refine G.aload_n E dX8_keepsNetwork_49 1 rfl rfl ?_
  refine G.getI (T := TX8) (N := 21) (C := RX8) (q0 := 0) (i := 5) E dX8_keepsNetwork_50 iw_X8_keepsNetwork_8 (wsM_at0 _ _ _) rfl (by decide) rfl (List.mem_of_getElem? (i := 6) rfl) (fun v9 => ?_)
  refine G.iast (q0 := 5) E dX8_keepsNetwork_53 (wsM_at5 _ _ _) (fun j => wsM_set5 _ _ _ _ j) (fun s10 => ?_)
  refine G.aload_n E dX8_keepsNetwork_54 1 rfl rfl ?_
  refine G.getR (T := TX8) (N := 21) (C := RX8) (q0 := 0) (i := 11) E dX8_keepsNetwork_55 iw_X8_keepsNetwork_8 (wsM_at0 _ _ _) rfl (by decide) rfl (List.mem_of_getElem? (i := 2) rfl) ?_
  refine G.iload_n E dX8_keepsNetwork_58 0 rfl rfl ?_
  refine G.iconst (v := 4) E dX8_keepsNetwork_59 (by decide) ?_
  refine G.iadd E dX8_keepsNetwork_60 ?_
  refine G.aload_n E dX8_keepsNetwork_61 1 rfl rfl ?_
  refine G.getI (T := TX8) (N := 21) (C := RX8) (q0 := 0) (i := 4) E dX8_keepsNetwork_62 iw_X8_keepsNetwork_8 (wsM_at0 _ _ _) rfl (by decide) rfl (List.mem_of_getElem? (i := 7) rfl) (fun v11 => ?_)
  refine G.iast (q0 := 5) E dX8_keepsNetwork_65 (wsM_at5 _ _ _) (fun j => wsM_set5 _ _ _ _ j) (fun s12 => ?_)
  refine G.iconst (v := 0) E dX8_keepsNetwork_66 (by decide) ?_
  refine G.istore_n (lv' := [(2, .int 0), (1, .int v2), (0, .ref (h 0))]) E dX8_keepsNetwork_67 rfl (by decide) rfl ?_
  refine G.loc [2, 1, 0] rfl ?_
  refine gl_X8_keepsNetwork_68 E (fun s15 => ?_) N _ _
  refine G.aload_n E dX8_keepsNetwork_96 0 rfl rfl ?_
  refine G.dup E dX8_keepsNetwork_97 rfl ?_
  refine G.getI (T := TX8) (N := 21) (C := RX8) (q0 := 0) (i := 10) E dX8_keepsNetwork_98 iw_X8_keepsNetwork_8 (wsM_at0 _ _ _) rfl (by decide) rfl (List.mem_of_getElem? (i := 1) rfl) (fun v16 => ?_)
  refine G.iconst (v := 1) E dX8_keepsNetwork_101 (by decide) ?_
  refine G.iadd E dX8_keepsNetwork_102 ?_
  refine G.putI (T := TX8) (N := 21) (C := RX8) (q0 := 0) (i := 10) (ty := .int) E dX8_keepsNetwork_103 iw_X8_keepsNetwork_8 tyX8 tyX8_ok nmX8 (wsM_at0 _ _ _) rfl (by decide) (List.mem_of_getElem? (i := 1) rfl) rfl (by decide +kernel) rfl rfl (Nat.le_of_ble_eq_true rfl) (wsM_set0_10 _ _ _ _) (fun s17 => ?_)
  exact G.vret E dX8_keepsNetwork_106 rfl rfl
set_option maxHeartbeats 4000000 in
set_option maxRecDepth 100000 in
theorem iw_X8_goes_8 : ∀ w ∈ u_ws RX8 TX8 21, w ∈ wsX8_goes := fun _ h => List.mem_cons_of_mem _ (List.mem_append_right _ h)
abbrev rm_X8_goes : Room := { frames := 0, cells := 0, slots := 0, locals := 0 }
noncomputable def f_X8_goes (N : Nat) (σ : Wd) (a0 : Int32) : Option (Wd) :=
  gI σ 0 5 fun v1 =>
  wI σ 0 5 (v1 &&& ((1 <<< (a0 &&& 31)) ^^^ (-1))) fun s2 =>
  some s2
set_option maxHeartbeats 4000000 in
set_option maxRecDepth 100000 in
theorem c_X8_goes {l : Launch} {D : va_G} {cy : Nat → ClassId} {h : Nat → Nat} {N : Nat} {σ : Wd} {a0 : Int32} {σ1 : Wd} (hW : WF (wsM cy h) (adM h)) (hr : f_X8_goes N σ a0 = some σ1) : Con l D cy (wsM cy h) (adM h) yX8_goes wsX8_goes rm_X8_goes 0 0 [.ref (h 0), .int a0] (none) σ σ1 := by
  refine Con.of (ρ := Wd) (lv0 := [(0, .ref (h 0)), (1, .int a0)]) (σ := σ) (fun _ : Wd => none) (fun r => r) (by decide) rfl rfl (Nat.le_of_ble_eq_true rfl) rfl hW hr (fun p e s m args below meth c E => ?_)
  unfold f_X8_goes
  refine G.aload_n E dX8_goes_0 0 rfl rfl ?_
  refine G.dup E dX8_goes_1 rfl ?_
  refine G.getI (T := TX8) (N := 21) (C := RX8) (q0 := 0) (i := 5) E dX8_goes_2 iw_X8_goes_8 (wsM_at0 _ _ _) rfl (by decide) rfl (List.mem_of_getElem? (i := 1) rfl) (fun v1 => ?_)
  refine G.iconst (v := 1) E dX8_goes_5 (by decide) ?_
  refine G.iload_n E dX8_goes_6 1 rfl rfl ?_
  refine G.ishl E dX8_goes_7 ?_
  refine G.iconst (v := (-1)) E dX8_goes_8 (by decide) ?_
  refine G.ixor E dX8_goes_9 ?_
  refine G.iand E dX8_goes_10 ?_
  refine G.putI (T := TX8) (N := 21) (C := RX8) (q0 := 0) (i := 5) (ty := .int) E dX8_goes_11 iw_X8_goes_8 tyX8 tyX8_ok nmX8 (wsM_at0 _ _ _) rfl (by decide) (List.mem_of_getElem? (i := 1) rfl) rfl (by decide +kernel) rfl rfl (Nat.le_of_ble_eq_true rfl) (wsM_set0_5 _ _ _ _) (fun s2 => ?_)
  exact G.vret E dX8_goes_14 rfl rfl
set_option maxHeartbeats 4000000 in
set_option maxRecDepth 100000 in
theorem iw_X8_series_8 : ∀ w ∈ u_ws RX8 TX8 21, w ∈ wsX8_series := fun _ h => List.mem_cons_of_mem _ (List.mem_append_right _ h)
abbrev rm_X8_series : Room := { frames := 1, cells := 0, slots := 0, locals := 24 }
noncomputable def f_X8_series (N : Nat) (σ : Wd) (a0 : Int32) : Option (Wd) :=
  rI σ 12 3 0 fun v1 =>
  rI σ 3 20 v1 fun v2 =>
  rI σ 12 3 1 fun v3 =>
  rI σ 3 20 v3 fun v4 =>
  rI σ 12 3 0 fun v5 =>
  bP (f_X8_goes N σ v5) fun s6 =>
  rI s6 12 3 1 fun v7 =>
  bP (f_X8_goes N s6 v7) fun s8 =>
  gI s8 0 2 fun v9 =>
  wI s8 0 2 (v9 &&& ((1 <<< (a0 &&& 31)) ^^^ (-1))) fun s10 =>
  rI s10 11 3 0 fun v11 =>
  rI s10 11 3 1 fun v12 =>
  dI (v2 * v4) (v2 + v4) fun v13 =>
  bS (f_X8_addsWire N s10 v11 v12 v13) fun v14 s15 =>
  some s15
set_option maxHeartbeats 4000000 in
set_option maxRecDepth 100000 in
theorem c_X8_series {l : Launch} {D : va_G} {cy : Nat → ClassId} {h : Nat → Nat} {N : Nat} {σ : Wd} {a0 : Int32} {σ1 : Wd} (hW : WF (wsM cy h) (adM h)) (hr : f_X8_series N σ a0 = some σ1) : Con l D cy (wsM cy h) (adM h) yX8_series wsX8_series rm_X8_series 0 0 [.ref (h 0), .int a0] (none) σ σ1 := by
  refine Con.of (ρ := Wd) (lv0 := [(0, .ref (h 0)), (1, .int a0)]) (σ := σ) (fun _ : Wd => none) (fun r => r) (by decide) rfl rfl (Nat.le_of_ble_eq_true rfl) rfl hW hr (fun p e s m args below meth c E => ?_)
  unfold f_X8_series
  refine G.aload_n E dX8_series_0 0 rfl rfl ?_
  refine G.getR (T := TX8) (N := 21) (C := RX8) (q0 := 0) (i := 8) E dX8_series_1 iw_X8_series_8 (wsM_at0 _ _ _) rfl (by decide) rfl (List.mem_of_getElem? (i := 1) rfl) ?_
  refine G.aload_n E dX8_series_4 0 rfl rfl ?_
  refine G.getR (T := TX8) (N := 21) (C := RX8) (q0 := 0) (i := 20) E dX8_series_5 iw_X8_series_8 (wsM_at0 _ _ _) rfl (by decide) rfl (List.mem_of_getElem? (i := 2) rfl) ?_
  refine G.iconst (v := 0) E dX8_series_8 (by decide) ?_
  refine G.iald (q0 := 12) E dX8_series_9 (wsM_at12 _ _ _) (fun v1 => ?_)
  refine G.iald (q0 := 3) E dX8_series_10 (wsM_at3 _ _ _) (fun v2 => ?_)
  refine G.istore_n (lv' := [(2, .int v2), (0, .ref (h 0)), (1, .int a0)]) E dX8_series_11 rfl (by decide) rfl ?_
  refine G.aload_n E dX8_series_12 1 rfl rfl ?_
  refine G.getR (T := TX8) (N := 21) (C := RX8) (q0 := 0) (i := 8) E dX8_series_13 iw_X8_series_8 (wsM_at0 _ _ _) rfl (by decide) rfl (List.mem_of_getElem? (i := 1) rfl) ?_
  refine G.aload_n E dX8_series_16 1 rfl rfl ?_
  refine G.getR (T := TX8) (N := 21) (C := RX8) (q0 := 0) (i := 20) E dX8_series_17 iw_X8_series_8 (wsM_at0 _ _ _) rfl (by decide) rfl (List.mem_of_getElem? (i := 2) rfl) ?_
  refine G.iconst (v := 1) E dX8_series_20 (by decide) ?_
  refine G.iald (q0 := 12) E dX8_series_21 (wsM_at12 _ _ _) (fun v3 => ?_)
  refine G.iald (q0 := 3) E dX8_series_22 (wsM_at3 _ _ _) (fun v4 => ?_)
  refine G.istore_n (lv' := [(3, .int v4), (2, .int v2), (0, .ref (h 0)), (1, .int a0)]) E dX8_series_23 rfl (by decide) rfl ?_
  refine G.aload_n E dX8_series_24 2 rfl rfl ?_
  refine G.aload_n E dX8_series_25 2 rfl rfl ?_
  refine G.getR (T := TX8) (N := 21) (C := RX8) (q0 := 0) (i := 20) E dX8_series_26 iw_X8_series_8 (wsM_at0 _ _ _) rfl (by decide) rfl (List.mem_of_getElem? (i := 2) rfl) ?_
  refine G.iconst (v := 0) E dX8_series_29 (by decide) ?_
  refine G.iald (q0 := 12) E dX8_series_30 (wsM_at12 _ _ _) (fun v5 => ?_)
  refine G.callVv (n := 1) (T := TX8) (N := 21) (C := RX8) (a := h 0) (q0 := 0) (As := [.int v5]) E dX8_series_31 (fun _ hv => c_X8_goes E.wf hv) gX8_series_X8_goes rfl rfl rfl (by decide +kernel) ⟨Nat.le_of_ble_eq_true rfl, Nat.le_of_ble_eq_true rfl⟩ (wsM_at0 _ _ _) rfl rfl (Nat.le_of_ble_eq_true rfl) ⟨Nat.le_of_ble_eq_true rfl, Nat.le_of_ble_eq_true rfl⟩ (fun s6 => ?_)
  refine G.aload_n E dX8_series_34 2 rfl rfl ?_
  refine G.aload_n E dX8_series_35 2 rfl rfl ?_
  refine G.getR (T := TX8) (N := 21) (C := RX8) (q0 := 0) (i := 20) E dX8_series_36 iw_X8_series_8 (wsM_at0 _ _ _) rfl (by decide) rfl (List.mem_of_getElem? (i := 2) rfl) ?_
  refine G.iconst (v := 1) E dX8_series_39 (by decide) ?_
  refine G.iald (q0 := 12) E dX8_series_40 (wsM_at12 _ _ _) (fun v7 => ?_)
  refine G.callVv (n := 1) (T := TX8) (N := 21) (C := RX8) (a := h 0) (q0 := 0) (As := [.int v7]) E dX8_series_41 (fun _ hv => c_X8_goes E.wf hv) gX8_series_X8_goes rfl rfl rfl (by decide +kernel) ⟨Nat.le_of_ble_eq_true rfl, Nat.le_of_ble_eq_true rfl⟩ (wsM_at0 _ _ _) rfl rfl (Nat.le_of_ble_eq_true rfl) ⟨Nat.le_of_ble_eq_true rfl, Nat.le_of_ble_eq_true rfl⟩ (fun s8 => ?_)
  refine G.aload_n E dX8_series_44 2 rfl rfl ?_
  refine G.dup E dX8_series_45 rfl ?_
  refine G.getI (T := TX8) (N := 21) (C := RX8) (q0 := 0) (i := 2) E dX8_series_46 iw_X8_series_8 (wsM_at0 _ _ _) rfl (by decide) rfl (List.mem_of_getElem? (i := 3) rfl) (fun v9 => ?_)
  refine G.iconst (v := 1) E dX8_series_49 (by decide) ?_
  refine G.iload_n E dX8_series_50 3 rfl rfl ?_
  refine G.ishl E dX8_series_51 ?_
  refine G.iconst (v := (-1)) E dX8_series_52 (by decide) ?_
  refine G.ixor E dX8_series_53 ?_
  refine G.iand E dX8_series_54 ?_
  refine G.putI (T := TX8) (N := 21) (C := RX8) (q0 := 0) (i := 2) (ty := .int) E dX8_series_55 iw_X8_series_8 tyX8 tyX8_ok nmX8 (wsM_at0 _ _ _) rfl (by decide) (List.mem_of_getElem? (i := 3) rfl) rfl (by decide +kernel) rfl rfl (Nat.le_of_ble_eq_true rfl) (wsM_set0_2 _ _ _ _) (fun s10 => ?_)
  refine G.aload_n E dX8_series_58 2 rfl rfl ?_
  refine G.aload_n E dX8_series_59 2 rfl rfl ?_
  refine G.getR (T := TX8) (N := 21) (C := RX8) (q0 := 0) (i := 19) E dX8_series_60 iw_X8_series_8 (wsM_at0 _ _ _) rfl (by decide) rfl (List.mem_of_getElem? (i := 4) rfl) ?_
  refine G.iconst (v := 0) E dX8_series_63 (by decide) ?_
  refine G.iald (q0 := 11) E dX8_series_64 (wsM_at11 _ _ _) (fun v11 => ?_)
  refine G.aload_n E dX8_series_65 2 rfl rfl ?_
  refine G.getR (T := TX8) (N := 21) (C := RX8) (q0 := 0) (i := 19) E dX8_series_66 iw_X8_series_8 (wsM_at0 _ _ _) rfl (by decide) rfl (List.mem_of_getElem? (i := 4) rfl) ?_
  refine G.iconst (v := 1) E dX8_series_69 (by decide) ?_
  refine G.iald (q0 := 11) E dX8_series_70 (wsM_at11 _ _ _) (fun v12 => ?_)
  refine G.iload_n E dX8_series_71 1 rfl rfl ?_
  refine G.iload_n E dX8_series_72 0 rfl rfl ?_
  refine G.imul E dX8_series_73 ?_
  refine G.iload_n E dX8_series_74 1 rfl rfl ?_
  refine G.iload_n E dX8_series_75 0 rfl rfl ?_
  refine G.iadd E dX8_series_76 ?_
  refine G.idiv E dX8_series_77 (fun v13 => ?_)
  refine G.callVis (n := 3) (T := TX8) (N := 21) (C := RX8) (a := h 0) (q0 := 0) (As := [.int v11, .int v12, .int v13]) E dX8_series_78 (fun _ _ hv => c_X8_addsWire E.wf hv) gX8_series_X8_addsWire rfl rfl rfl (by decide +kernel) ⟨Nat.le_of_ble_eq_true rfl, Nat.le_of_ble_eq_true rfl⟩ (wsM_at0 _ _ _) rfl rfl (Nat.le_of_ble_eq_true rfl) ⟨Nat.le_of_ble_eq_true rfl, Nat.le_of_ble_eq_true rfl⟩ (fun v14 s15 => ?_)
  refine G.pop E dX8_series_81 rfl ?_
  exact G.vret E dX8_series_82 rfl rfl
set_option maxHeartbeats 4000000 in
set_option maxRecDepth 100000 in
theorem iw_X8_triangle_8 : ∀ w ∈ u_ws RX8 TX8 21, w ∈ wsX8_triangle := fun _ h => List.mem_cons_of_mem _ (List.mem_append_right _ h)
abbrev rm_X8_triangle : Room := { frames := 1, cells := 0, slots := 0, locals := 24 }
noncomputable def fl_X8_triangle_40 {ρ : Type} (N : Nat) (x1 : Int32) (x2 : Int32) (x3 : Int32) (x4 : Int32) (K : Wd → Option ρ) : Nat → Int32 → Wd → Option ρ
  | 0, _, _ => none
  | n + 1, x5, s0 =>
    if 3 ≤ x5 then (
      K s0)
    else (
      rI s0 12 3 x5 fun v7 =>
      bP (f_X8_goes N s0 v7) fun s8 =>
      fl_X8_triangle_40 N x1 x2 x3 x4 K n (x5 + 1) s8)
set_option maxHeartbeats 4000000 in
set_option maxRecDepth 100000 in
theorem gl_X8_triangle_40 {ρ : Type} {Q : ρ → State → Prop} {N : Nat} {x1 : Int32} {x2 : Int32} {x3 : Int32} {x4 : Int32} {K : Wd → Option ρ} (E : EV p s m args meth c cX8_triangle 6 RX8 wsX8_triangle none D cy (wsM cy h) (adM h)) (hK : ∀ (s' : Wd), G p l e (headSpec wsX8_triangle rm_X8_triangle).room s m args below meth c 6 0 0 D (wsM cy h) (adM h) Q 63 [(0, .ref (h 0)), (1, .int x1), (2, .int x2), (3, .int x3), (4, .int x4)] [] s' (K s')) :
  ∀ (n : Nat) (x5 : Int32) (s0 : Wd), G p l e (headSpec wsX8_triangle rm_X8_triangle).room s m args below meth c 6 0 0 D (wsM cy h) (adM h) Q 40 [(0, .ref (h 0)), (1, .int x1), (2, .int x2), (3, .int x3), (4, .int x4), (5, .int x5)] [] s0 (fl_X8_triangle_40 N x1 x2 x3 x4 K n x5 s0) := by
  intro n
  induction n with
  | zero => intros; exact G.no
  | succ n ih =>
    intro x5 s0
    rw [fl_X8_triangle_40]
    refine G.iload E dX8_triangle_40 5 rfl ?_
    refine G.iconst (v := 3) E dX8_triangle_42 (by decide) ?_
    refine G.icmp_ge (tgt := 63) E dX8_triangle_43 (by decide) ?_ ?_
    · refine G.loc [0, 1, 2, 3, 4] rfl ?_
      exact hK s0
    · refine G.aload_n E dX8_triangle_46 0 rfl rfl ?_
      refine G.aload_n E dX8_triangle_47 0 rfl rfl ?_
      refine G.getR (T := TX8) (N := 21) (C := RX8) (q0 := 0) (i := 20) E dX8_triangle_48 iw_X8_triangle_8 (wsM_at0 _ _ _) rfl (by decide) rfl (List.mem_of_getElem? (i := 2) rfl) ?_
      refine G.iload E dX8_triangle_51 5 rfl ?_
      refine G.iald (q0 := 12) E dX8_triangle_53 (wsM_at12 _ _ _) (fun v7 => ?_)
      refine G.callVv (n := 1) (T := TX8) (N := 21) (C := RX8) (a := h 0) (q0 := 0) (As := [.int v7]) E dX8_triangle_54 (fun _ hv => c_X8_goes E.wf hv) gX8_triangle_X8_goes rfl rfl rfl (by decide +kernel) ⟨Nat.le_of_ble_eq_true rfl, Nat.le_of_ble_eq_true rfl⟩ (wsM_at0 _ _ _) rfl rfl (Nat.le_of_ble_eq_true rfl) ⟨Nat.le_of_ble_eq_true rfl, Nat.le_of_ble_eq_true rfl⟩ (fun s8 => ?_)
      refine G.iinc (v := x5 + 1) (lv' := [(5, .int (x5 + 1)), (0, .ref (h 0)), (1, .int x1), (2, .int x2), (3, .int x3), (4, .int x4)]) E dX8_triangle_57 5 rfl rfl (by decide) rfl ?_
      refine G.goto (tgt := 40) E dX8_triangle_60 (by decide) ?_
      refine G.loc [1, 2, 3, 4, 5, 0] rfl ?_
      exact ih (x5 + 1) s8
noncomputable def f_X8_triangle (N : Nat) (σ : Wd) (a0 : Int32) : Option (Wd) :=
  rI σ 12 3 0 fun v1 =>
  rI σ 3 20 v1 fun v2 =>
  rI σ 12 3 1 fun v3 =>
  rI σ 3 20 v3 fun v4 =>
  rI σ 12 3 2 fun v5 =>
  rI σ 3 20 v5 fun v6 =>
  fl_X8_triangle_40 N a0 v2 v4 v6 (fun s9 =>
    gI s9 0 2 fun v10 =>
    wI s9 0 2 (v10 &&& ((1 <<< (a0 &&& 31)) ^^^ (-1))) fun s11 =>
    rI s11 11 3 0 fun v12 =>
    rI s11 11 3 1 fun v13 =>
    dI (v2 * v4) ((v2 + v4) + v6) fun v14 =>
    bS (f_X8_addsWire N s11 v12 v13 v14) fun v15 s16 =>
    rI s16 11 3 0 fun v17 =>
    rI s16 11 3 2 fun v18 =>
    dI (v2 * v6) ((v2 + v4) + v6) fun v19 =>
    bS (f_X8_addsWire N s16 v17 v18 v19) fun v20 s21 =>
    rI s21 11 3 1 fun v22 =>
    rI s21 11 3 2 fun v23 =>
    dI (v4 * v6) ((v2 + v4) + v6) fun v24 =>
    bS (f_X8_addsWire N s21 v22 v23 v24) fun v25 s26 =>
    some s26) N 0 σ
set_option maxHeartbeats 4000000 in
set_option maxRecDepth 100000 in
theorem c_X8_triangle {l : Launch} {D : va_G} {cy : Nat → ClassId} {h : Nat → Nat} {N : Nat} {σ : Wd} {a0 : Int32} {σ1 : Wd} (hW : WF (wsM cy h) (adM h)) (hr : f_X8_triangle N σ a0 = some σ1) : Con l D cy (wsM cy h) (adM h) yX8_triangle wsX8_triangle rm_X8_triangle 0 0 [.ref (h 0), .int a0] (none) σ σ1 := by
  refine Con.of (ρ := Wd) (lv0 := [(0, .ref (h 0)), (1, .int a0)]) (σ := σ) (fun _ : Wd => none) (fun r => r) (by decide) rfl rfl (Nat.le_of_ble_eq_true rfl) rfl hW hr (fun p e s m args below meth c E => ?_)
  unfold f_X8_triangle
  refine G.aload_n E dX8_triangle_0 0 rfl rfl ?_
  refine G.getR (T := TX8) (N := 21) (C := RX8) (q0 := 0) (i := 8) E dX8_triangle_1 iw_X8_triangle_8 (wsM_at0 _ _ _) rfl (by decide) rfl (List.mem_of_getElem? (i := 1) rfl) ?_
  refine G.aload_n E dX8_triangle_4 0 rfl rfl ?_
  refine G.getR (T := TX8) (N := 21) (C := RX8) (q0 := 0) (i := 20) E dX8_triangle_5 iw_X8_triangle_8 (wsM_at0 _ _ _) rfl (by decide) rfl (List.mem_of_getElem? (i := 2) rfl) ?_
  refine G.iconst (v := 0) E dX8_triangle_8 (by decide) ?_
  refine G.iald (q0 := 12) E dX8_triangle_9 (wsM_at12 _ _ _) (fun v1 => ?_)
  refine G.iald (q0 := 3) E dX8_triangle_10 (wsM_at3 _ _ _) (fun v2 => ?_)
  refine G.istore_n (lv' := [(2, .int v2), (0, .ref (h 0)), (1, .int a0)]) E dX8_triangle_11 rfl (by decide) rfl ?_
  refine G.aload_n E dX8_triangle_12 1 rfl rfl ?_
  refine G.getR (T := TX8) (N := 21) (C := RX8) (q0 := 0) (i := 8) E dX8_triangle_13 iw_X8_triangle_8 (wsM_at0 _ _ _) rfl (by decide) rfl (List.mem_of_getElem? (i := 1) rfl) ?_
  refine G.aload_n E dX8_triangle_16 1 rfl rfl ?_
  refine G.getR (T := TX8) (N := 21) (C := RX8) (q0 := 0) (i := 20) E dX8_triangle_17 iw_X8_triangle_8 (wsM_at0 _ _ _) rfl (by decide) rfl (List.mem_of_getElem? (i := 2) rfl) ?_
  refine G.iconst (v := 1) E dX8_triangle_20 (by decide) ?_
  refine G.iald (q0 := 12) E dX8_triangle_21 (wsM_at12 _ _ _) (fun v3 => ?_)
  refine G.iald (q0 := 3) E dX8_triangle_22 (wsM_at3 _ _ _) (fun v4 => ?_)
  refine G.istore_n (lv' := [(3, .int v4), (2, .int v2), (0, .ref (h 0)), (1, .int a0)]) E dX8_triangle_23 rfl (by decide) rfl ?_
  refine G.aload_n E dX8_triangle_24 2 rfl rfl ?_
  refine G.getR (T := TX8) (N := 21) (C := RX8) (q0 := 0) (i := 8) E dX8_triangle_25 iw_X8_triangle_8 (wsM_at0 _ _ _) rfl (by decide) rfl (List.mem_of_getElem? (i := 1) rfl) ?_
  refine G.aload_n E dX8_triangle_28 2 rfl rfl ?_
  refine G.getR (T := TX8) (N := 21) (C := RX8) (q0 := 0) (i := 20) E dX8_triangle_29 iw_X8_triangle_8 (wsM_at0 _ _ _) rfl (by decide) rfl (List.mem_of_getElem? (i := 2) rfl) ?_
  refine G.iconst (v := 2) E dX8_triangle_32 (by decide) ?_
  refine G.iald (q0 := 12) E dX8_triangle_33 (wsM_at12 _ _ _) (fun v5 => ?_)
  refine G.iald (q0 := 3) E dX8_triangle_34 (wsM_at3 _ _ _) (fun v6 => ?_)
  refine G.istore (lv' := [(4, .int v6), (3, .int v4), (2, .int v2), (0, .ref (h 0)), (1, .int a0)]) E dX8_triangle_35 (by decide) rfl ?_
  refine G.iconst (v := 0) E dX8_triangle_37 (by decide) ?_
  refine G.istore (lv' := [(5, .int 0), (4, .int v6), (3, .int v4), (2, .int v2), (0, .ref (h 0)), (1, .int a0)]) E dX8_triangle_38 (by decide) rfl ?_
  refine G.loc [4, 5, 3, 2, 1, 0] rfl ?_
  refine gl_X8_triangle_40 E (fun s9 => ?_) N _ _
  refine G.aload_n E dX8_triangle_63 0 rfl rfl ?_
  refine G.dup E dX8_triangle_64 rfl ?_
  refine G.getI (T := TX8) (N := 21) (C := RX8) (q0 := 0) (i := 2) E dX8_triangle_65 iw_X8_triangle_8 (wsM_at0 _ _ _) rfl (by decide) rfl (List.mem_of_getElem? (i := 3) rfl) (fun v10 => ?_)
  refine G.iconst (v := 1) E dX8_triangle_68 (by decide) ?_
  refine G.iload_n E dX8_triangle_69 1 rfl rfl ?_
  refine G.ishl E dX8_triangle_70 ?_
  refine G.iconst (v := (-1)) E dX8_triangle_71 (by decide) ?_
  refine G.ixor E dX8_triangle_72 ?_
  refine G.iand E dX8_triangle_73 ?_
  refine G.putI (T := TX8) (N := 21) (C := RX8) (q0 := 0) (i := 2) (ty := .int) E dX8_triangle_74 iw_X8_triangle_8 tyX8 tyX8_ok nmX8 (wsM_at0 _ _ _) rfl (by decide) (List.mem_of_getElem? (i := 3) rfl) rfl (by decide +kernel) rfl rfl (Nat.le_of_ble_eq_true rfl) (wsM_set0_2 _ _ _ _) (fun s11 => ?_)
  refine G.aload_n E dX8_triangle_77 0 rfl rfl ?_
  refine G.aload_n E dX8_triangle_78 0 rfl rfl ?_
  refine G.getR (T := TX8) (N := 21) (C := RX8) (q0 := 0) (i := 19) E dX8_triangle_79 iw_X8_triangle_8 (wsM_at0 _ _ _) rfl (by decide) rfl (List.mem_of_getElem? (i := 4) rfl) ?_
  refine G.iconst (v := 0) E dX8_triangle_82 (by decide) ?_
  refine G.iald (q0 := 11) E dX8_triangle_83 (wsM_at11 _ _ _) (fun v12 => ?_)
  refine G.aload_n E dX8_triangle_84 0 rfl rfl ?_
  refine G.getR (T := TX8) (N := 21) (C := RX8) (q0 := 0) (i := 19) E dX8_triangle_85 iw_X8_triangle_8 (wsM_at0 _ _ _) rfl (by decide) rfl (List.mem_of_getElem? (i := 4) rfl) ?_
  refine G.iconst (v := 1) E dX8_triangle_88 (by decide) ?_
  refine G.iald (q0 := 11) E dX8_triangle_89 (wsM_at11 _ _ _) (fun v13 => ?_)
  refine G.iload_n E dX8_triangle_90 2 rfl rfl ?_
  refine G.iload_n E dX8_triangle_91 3 rfl rfl ?_
  refine G.imul E dX8_triangle_92 ?_
  refine G.iload_n E dX8_triangle_93 2 rfl rfl ?_
  refine G.iload_n E dX8_triangle_94 3 rfl rfl ?_
  refine G.iadd E dX8_triangle_95 ?_
  refine G.iload E dX8_triangle_96 4 rfl ?_
  refine G.iadd E dX8_triangle_98 ?_
  refine G.idiv E dX8_triangle_99 (fun v14 => ?_)
  refine G.callVis (n := 3) (T := TX8) (N := 21) (C := RX8) (a := h 0) (q0 := 0) (As := [.int v12, .int v13, .int v14]) E dX8_triangle_100 (fun _ _ hv => c_X8_addsWire E.wf hv) gX8_triangle_X8_addsWire rfl rfl rfl (by decide +kernel) ⟨Nat.le_of_ble_eq_true rfl, Nat.le_of_ble_eq_true rfl⟩ (wsM_at0 _ _ _) rfl rfl (Nat.le_of_ble_eq_true rfl) ⟨Nat.le_of_ble_eq_true rfl, Nat.le_of_ble_eq_true rfl⟩ (fun v15 s16 => ?_)
  refine G.pop E dX8_triangle_103 rfl ?_
  refine G.aload_n E dX8_triangle_104 0 rfl rfl ?_
  refine G.aload_n E dX8_triangle_105 0 rfl rfl ?_
  refine G.getR (T := TX8) (N := 21) (C := RX8) (q0 := 0) (i := 19) E dX8_triangle_106 iw_X8_triangle_8 (wsM_at0 _ _ _) rfl (by decide) rfl (List.mem_of_getElem? (i := 4) rfl) ?_
  refine G.iconst (v := 0) E dX8_triangle_109 (by decide) ?_
  refine G.iald (q0 := 11) E dX8_triangle_110 (wsM_at11 _ _ _) (fun v17 => ?_)
  refine G.aload_n E dX8_triangle_111 0 rfl rfl ?_
  refine G.getR (T := TX8) (N := 21) (C := RX8) (q0 := 0) (i := 19) E dX8_triangle_112 iw_X8_triangle_8 (wsM_at0 _ _ _) rfl (by decide) rfl (List.mem_of_getElem? (i := 4) rfl) ?_
  refine G.iconst (v := 2) E dX8_triangle_115 (by decide) ?_
  refine G.iald (q0 := 11) E dX8_triangle_116 (wsM_at11 _ _ _) (fun v18 => ?_)
  refine G.iload_n E dX8_triangle_117 2 rfl rfl ?_
  refine G.iload E dX8_triangle_118 4 rfl ?_
  refine G.imul E dX8_triangle_120 ?_
  refine G.iload_n E dX8_triangle_121 2 rfl rfl ?_
  refine G.iload_n E dX8_triangle_122 3 rfl rfl ?_
  refine G.iadd E dX8_triangle_123 ?_
  refine G.iload E dX8_triangle_124 4 rfl ?_
  refine G.iadd E dX8_triangle_126 ?_
  refine G.idiv E dX8_triangle_127 (fun v19 => ?_)
  refine G.callVis (n := 3) (T := TX8) (N := 21) (C := RX8) (a := h 0) (q0 := 0) (As := [.int v17, .int v18, .int v19]) E dX8_triangle_128 (fun _ _ hv => c_X8_addsWire E.wf hv) gX8_triangle_X8_addsWire rfl rfl rfl (by decide +kernel) ⟨Nat.le_of_ble_eq_true rfl, Nat.le_of_ble_eq_true rfl⟩ (wsM_at0 _ _ _) rfl rfl (Nat.le_of_ble_eq_true rfl) ⟨Nat.le_of_ble_eq_true rfl, Nat.le_of_ble_eq_true rfl⟩ (fun v20 s21 => ?_)
  refine G.pop E dX8_triangle_131 rfl ?_
  refine G.aload_n E dX8_triangle_132 0 rfl rfl ?_
  refine G.aload_n E dX8_triangle_133 0 rfl rfl ?_
  refine G.getR (T := TX8) (N := 21) (C := RX8) (q0 := 0) (i := 19) E dX8_triangle_134 iw_X8_triangle_8 (wsM_at0 _ _ _) rfl (by decide) rfl (List.mem_of_getElem? (i := 4) rfl) ?_
  refine G.iconst (v := 1) E dX8_triangle_137 (by decide) ?_
  refine G.iald (q0 := 11) E dX8_triangle_138 (wsM_at11 _ _ _) (fun v22 => ?_)
  refine G.aload_n E dX8_triangle_139 0 rfl rfl ?_
  refine G.getR (T := TX8) (N := 21) (C := RX8) (q0 := 0) (i := 19) E dX8_triangle_140 iw_X8_triangle_8 (wsM_at0 _ _ _) rfl (by decide) rfl (List.mem_of_getElem? (i := 4) rfl) ?_
  refine G.iconst (v := 2) E dX8_triangle_143 (by decide) ?_
  refine G.iald (q0 := 11) E dX8_triangle_144 (wsM_at11 _ _ _) (fun v23 => ?_)
  refine G.iload_n E dX8_triangle_145 3 rfl rfl ?_
  refine G.iload E dX8_triangle_146 4 rfl ?_
  refine G.imul E dX8_triangle_148 ?_
  refine G.iload_n E dX8_triangle_149 2 rfl rfl ?_
  refine G.iload_n E dX8_triangle_150 3 rfl rfl ?_
  refine G.iadd E dX8_triangle_151 ?_
  refine G.iload E dX8_triangle_152 4 rfl ?_
  refine G.iadd E dX8_triangle_154 ?_
  refine G.idiv E dX8_triangle_155 (fun v24 => ?_)
  refine G.callVis (n := 3) (T := TX8) (N := 21) (C := RX8) (a := h 0) (q0 := 0) (As := [.int v22, .int v23, .int v24]) E dX8_triangle_156 (fun _ _ hv => c_X8_addsWire E.wf hv) gX8_triangle_X8_addsWire rfl rfl rfl (by decide +kernel) ⟨Nat.le_of_ble_eq_true rfl, Nat.le_of_ble_eq_true rfl⟩ (wsM_at0 _ _ _) rfl rfl (Nat.le_of_ble_eq_true rfl) ⟨Nat.le_of_ble_eq_true rfl, Nat.le_of_ble_eq_true rfl⟩ (fun v25 s26 => ?_)
  refine G.pop E dX8_triangle_159 rfl ?_
  exact G.vret E dX8_triangle_160 rfl rfl
end TR
