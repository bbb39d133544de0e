section TR
variable {p : Program} {l : Launch} {e : Env} {s : State} {m : MethodId} {args : Array Value} {below : List Frame} {meth : Method} {c : Code} {D : va_G} {cy : Nat → ClassId} {h : Nat → Nat}

set_option maxHeartbeats 4000000 in
set_option maxRecDepth 100000 in
theorem iw_X8_addsNode_8 : ∀ w ∈ u_ws RX8 TX8 21, w ∈ wsX8_addsNode := fun _ h => List.mem_cons_of_mem _ (List.mem_append_right _ h)
abbrev rm_X8_addsNode : Room := { frames := 0, cells := 0, slots := 0, locals := 0 }
noncomputable def f_X8_addsNode (N : Nat) (σ : Wd) (a0 : Int32) : Option (Int32 × Wd) :=
  gI σ 0 1 fun v1 =>
  gI σ 0 2 fun v2 =>
  wI σ 0 2 (v2 ||| (1 <<< (v1 &&& 31))) fun s3 =>
  jn (fun (v4 : Int32) => ((
    wI s3 0 3 v4 fun s5 =>
    aI s5 4 7 v1 0 fun s6 =>
    gI s6 0 1 fun v7 =>
    wI s6 0 1 (v7 + 1) fun s8 =>
    some (v1, s8)) : Option (Int32 × Wd))) fun j43 =>
  if a0 = 0 then (
    gI s3 0 3 fun v9 =>
    j43 (v9 &&& ((1 <<< (v1 &&& 31)) ^^^ (-1))))
  else (
    gI s3 0 3 fun v10 =>
    j43 (v10 ||| (1 <<< (v1 &&& 31))))
set_option maxHeartbeats 4000000 in
set_option maxRecDepth 100000 in
theorem c_X8_addsNode {l : Launch} {D : va_G} {cy : Nat → ClassId} {h : Nat → Nat} {N : Nat} {σ : Wd} {a0 : Int32} {r : Int32} {σ1 : Wd} (hW : WF (wsM cy h) (adM h)) (hr : f_X8_addsNode N σ a0 = some (r, σ1)) : Con l D cy (wsM cy h) (adM h) yX8_addsNode wsX8_addsNode rm_X8_addsNode 0 0 [.ref (h 0), .int a0] (some (.int r)) σ σ1 := by
  refine Con.of (ρ := Int32 × Wd) (lv0 := [(0, .ref (h 0)), (1, .int a0)]) (σ := σ) (fun r : Int32 × Wd => some (.int r.1)) (fun r => r.2) (by decide) rfl rfl (Nat.le_of_ble_eq_true rfl) rfl hW hr (fun p e s m args below meth c E => ?_)
  unfold f_X8_addsNode
  refine G.aload_n E dX8_addsNode_0 0 rfl rfl ?_
  refine G.getI (T := TX8) (N := 21) (C := RX8) (q0 := 0) (i := 1) E dX8_addsNode_1 iw_X8_addsNode_8 (wsM_at0 _ _ _) rfl (by decide) rfl (List.mem_of_getElem? (i := 1) rfl) (fun v1 => ?_)
  refine G.istore_n (lv' := [(2, .int v1), (0, .ref (h 0)), (1, .int a0)]) E dX8_addsNode_4 rfl (by decide) rfl ?_
  refine G.aload_n E dX8_addsNode_5 1 rfl rfl ?_
  refine G.dup E dX8_addsNode_6 rfl ?_
  refine G.getI (T := TX8) (N := 21) (C := RX8) (q0 := 0) (i := 2) E dX8_addsNode_7 iw_X8_addsNode_8 (wsM_at0 _ _ _) rfl (by decide) rfl (List.mem_of_getElem? (i := 2) rfl) (fun v2 => ?_)
  refine G.iconst (v := 1) E dX8_addsNode_10 (by decide) ?_
  refine G.iload_n E dX8_addsNode_11 0 rfl rfl ?_
  refine G.ishl E dX8_addsNode_12 ?_
  refine G.ior E dX8_addsNode_13 ?_
  refine G.putI (T := TX8) (N := 21) (C := RX8) (q0 := 0) (i := 2) (ty := .int) E dX8_addsNode_14 iw_X8_addsNode_8 tyX8 tyX8_ok nmX8 (wsM_at0 _ _ _) rfl (by decide) (List.mem_of_getElem? (i := 2) rfl) rfl (by decide +kernel) rfl rfl (Nat.le_of_ble_eq_true rfl) (wsM_set0_2 _ _ _ _) (fun s3 => ?_)
  refine G.aload_n E dX8_addsNode_17 1 rfl rfl ?_
  refine G.iload_n E dX8_addsNode_18 2 rfl rfl ?_
  refine G.jn (P := fun j => ∀ (v4 : Int32), G p l e (headSpec wsX8_addsNode rm_X8_addsNode).room s m args below meth c 3 0 0 D (wsM cy h) (adM h) (QM D (wsM cy h) (adM h) below args s 0 0 (fun r : Int32 × Wd => some (.int r.1)) (fun r => r.2)) 43 [(0, .ref (h 0)), (2, .int v1)] [.int v4, .ref (h 0)] s3 (j v4)) ?_ (fun j43 hj43 => ?_)
  · intro v4
    refine G.putI (T := TX8) (N := 21) (C := RX8) (q0 := 0) (i := 3) (ty := .int) E dX8_addsNode_43 iw_X8_addsNode_8 tyX8 tyX8_ok nmX8 (wsM_at0 _ _ _) rfl (by decide) (List.mem_of_getElem? (i := 3) rfl) rfl (by decide +kernel) rfl rfl (Nat.le_of_ble_eq_true rfl) (wsM_set0_3 _ _ _ _) (fun s5 => ?_)
    refine G.aload_n E dX8_addsNode_46 0 rfl rfl ?_
    refine G.getR (T := TX8) (N := 21) (C := RX8) (q0 := 0) (i := 9) E dX8_addsNode_47 iw_X8_addsNode_8 (wsM_at0 _ _ _) rfl (by decide) rfl (List.mem_of_getElem? (i := 4) rfl) ?_
    refine G.iload_n E dX8_addsNode_50 1 rfl rfl ?_
    refine G.iconst (v := 0) E dX8_addsNode_51 (by decide) ?_
    refine G.iast (q0 := 4) E dX8_addsNode_52 (wsM_at4 _ _ _) (fun j => wsM_set4 _ _ _ _ j) (fun s6 => ?_)
    refine G.aload_n E dX8_addsNode_53 0 rfl rfl ?_
    refine G.dup E dX8_addsNode_54 rfl ?_
    refine G.getI (T := TX8) (N := 21) (C := RX8) (q0 := 0) (i := 1) E dX8_addsNode_55 iw_X8_addsNode_8 (wsM_at0 _ _ _) rfl (by decide) rfl (List.mem_of_getElem? (i := 1) rfl) (fun v7 => ?_)
    refine G.iconst (v := 1) E dX8_addsNode_58 (by decide) ?_
    refine G.iadd E dX8_addsNode_59 ?_
    refine G.putI (T := TX8) (N := 21) (C := RX8) (q0 := 0) (i := 1) (ty := .int) E dX8_addsNode_60 iw_X8_addsNode_8 tyX8 tyX8_ok nmX8 (wsM_at0 _ _ _) rfl (by decide) (List.mem_of_getElem? (i := 1) rfl) rfl (by decide +kernel) rfl rfl (Nat.le_of_ble_eq_true rfl) (wsM_set0_1 _ _ _ _) (fun s8 => ?_)
    refine G.iload_n E dX8_addsNode_63 1 rfl rfl ?_
    exact G.iret E dX8_addsNode_64 rfl rfl
  · refine G.if_eq (tgt := 33) E dX8_addsNode_19 (by decide) ?_ ?_
    · refine G.aload_n E dX8_addsNode_33 1 rfl rfl ?_
      refine G.getI (T := TX8) (N := 21) (C := RX8) (q0 := 0) (i := 3) E dX8_addsNode_34 iw_X8_addsNode_8 (wsM_at0 _ _ _) rfl (by decide) rfl (List.mem_of_getElem? (i := 3) rfl) (fun v9 => ?_)
      refine G.iconst (v := 1) E dX8_addsNode_37 (by decide) ?_
      refine G.iload_n E dX8_addsNode_38 0 rfl rfl ?_
      refine G.ishl E dX8_addsNode_39 ?_
      refine G.iconst (v := (-1)) E dX8_addsNode_40 (by decide) ?_
      refine G.ixor E dX8_addsNode_41 ?_
      refine G.iand E dX8_addsNode_42 ?_
      refine G.loc [1, 0] rfl ?_
      exact hj43 (v9 &&& ((1 <<< (v1 &&& 31)) ^^^ (-1)))
    · refine G.aload_n E dX8_addsNode_22 1 rfl rfl ?_
      refine G.getI (T := TX8) (N := 21) (C := RX8) (q0 := 0) (i := 3) E dX8_addsNode_23 iw_X8_addsNode_8 (wsM_at0 _ _ _) rfl (by decide) rfl (List.mem_of_getElem? (i := 3) rfl) (fun v10 => ?_)
      refine G.iconst (v := 1) E dX8_addsNode_26 (by decide) ?_
      refine G.iload_n E dX8_addsNode_27 0 rfl rfl ?_
      refine G.ishl E dX8_addsNode_28 ?_
      refine G.ior E dX8_addsNode_29 ?_
      refine G.goto (tgt := 43) E dX8_addsNode_30 (by decide) ?_
      refine G.loc [1, 0] rfl ?_
      exact hj43 (v10 ||| (1 <<< (v1 &&& 31)))
set_option maxHeartbeats 4000000 in
set_option maxRecDepth 100000 in
theorem iw_X8_addsWire_8 : ∀ w ∈ u_ws RX8 TX8 21, w ∈ wsX8_addsWire := fun _ h => List.mem_cons_of_mem _ (List.mem_append_right _ h)
abbrev rm_X8_addsWire : Room := { frames := 0, cells := 0, slots := 0, locals := 0 }
noncomputable def f_X8_addsWire (N : Nat) (σ : Wd) (a0 : Int32) (a1 : Int32) (a2 : Int32) : Option (Int32 × Wd) :=
  gI σ 0 4 fun v1 =>
  gI σ 0 5 fun v2 =>
  wI σ 0 5 (v2 ||| (1 <<< (v1 &&& 31))) fun s3 =>
  aI s3 1 20 v1 a0 fun s4 =>
  aI s4 2 20 v1 a1 fun s5 =>
  aI s5 3 20 v1 a2 fun s6 =>
  gI s6 0 4 fun v7 =>
  wI s6 0 4 (v7 + 1) fun s8 =>
  some (v1, s8)
set_option maxHeartbeats 4000000 in
set_option maxRecDepth 100000 in
theorem c_X8_addsWire {l : Launch} {D : va_G} {cy : Nat → ClassId} {h : Nat → Nat} {N : Nat} {σ : Wd} {a0 : Int32} {a1 : Int32} {a2 : Int32} {r : Int32} {σ1 : Wd} (hW : WF (wsM cy h) (adM h)) (hr : f_X8_addsWire N σ a0 a1 a2 = some (r, σ1)) : Con l D cy (wsM cy h) (adM h) yX8_addsWire wsX8_addsWire rm_X8_addsWire 0 0 [.ref (h 0), .int a0, .int a1, .int a2] (some (.int r)) σ σ1 := by
  refine Con.of (ρ := Int32 × Wd) (lv0 := [(0, .ref (h 0)), (1, .int a0), (2, .int a1), (3, .int a2)]) (σ := σ) (fun r : Int32 × Wd => some (.int r.1)) (fun r => r.2) (by decide) rfl rfl (Nat.le_of_ble_eq_true rfl) rfl hW hr (fun p e s m args below meth c E => ?_)
  unfold f_X8_addsWire
  refine G.aload_n E dX8_addsWire_0 0 rfl rfl ?_
  refine G.getI (T := TX8) (N := 21) (C := RX8) (q0 := 0) (i := 4) E dX8_addsWire_1 iw_X8_addsWire_8 (wsM_at0 _ _ _) rfl (by decide) rfl (List.mem_of_getElem? (i := 1) rfl) (fun v1 => ?_)
  refine G.istore (lv' := [(4, .int v1), (0, .ref (h 0)), (1, .int a0), (2, .int a1), (3, .int a2)]) E dX8_addsWire_4 (by decide) rfl ?_
  refine G.aload_n E dX8_addsWire_6 1 rfl rfl ?_
  refine G.dup E dX8_addsWire_7 rfl ?_
  refine G.getI (T := TX8) (N := 21) (C := RX8) (q0 := 0) (i := 5) E dX8_addsWire_8 iw_X8_addsWire_8 (wsM_at0 _ _ _) rfl (by decide) rfl (List.mem_of_getElem? (i := 2) rfl) (fun v2 => ?_)
  refine G.iconst (v := 1) E dX8_addsWire_11 (by decide) ?_
  refine G.iload E dX8_addsWire_12 0 rfl ?_
  refine G.ishl E dX8_addsWire_14 ?_
  refine G.ior E dX8_addsWire_15 ?_
  refine G.putI (T := TX8) (N := 21) (C := RX8) (q0 := 0) (i := 5) (ty := .int) E dX8_addsWire_16 iw_X8_addsWire_8 tyX8 tyX8_ok nmX8 (wsM_at0 _ _ _) rfl (by decide) (List.mem_of_getElem? (i := 2) rfl) rfl (by decide +kernel) rfl rfl (Nat.le_of_ble_eq_true rfl) (wsM_set0_5 _ _ _ _) (fun s3 => ?_)
  refine G.aload_n E dX8_addsWire_19 1 rfl rfl ?_
  refine G.getR (T := TX8) (N := 21) (C := RX8) (q0 := 0) (i := 6) E dX8_addsWire_20 iw_X8_addsWire_8 (wsM_at0 _ _ _) rfl (by decide) rfl (List.mem_of_getElem? (i := 3) rfl) ?_
  refine G.iload E dX8_addsWire_23 0 rfl ?_
  refine G.iload_n E dX8_addsWire_25 2 rfl rfl ?_
  refine G.iast (q0 := 1) E dX8_addsWire_26 (wsM_at1 _ _ _) (fun j => wsM_set1 _ _ _ _ j) (fun s4 => ?_)
  refine G.aload_n E dX8_addsWire_27 1 rfl rfl ?_
  refine G.getR (T := TX8) (N := 21) (C := RX8) (q0 := 0) (i := 7) E dX8_addsWire_28 iw_X8_addsWire_8 (wsM_at0 _ _ _) rfl (by decide) rfl (List.mem_of_getElem? (i := 4) rfl) ?_
  refine G.iload E dX8_addsWire_31 0 rfl ?_
  refine G.iload_n E dX8_addsWire_33 3 rfl rfl ?_
  refine G.iast (q0 := 2) E dX8_addsWire_34 (wsM_at2 _ _ _) (fun j => wsM_set2 _ _ _ _ j) (fun s5 => ?_)
  refine G.aload_n E dX8_addsWire_35 1 rfl rfl ?_
  refine G.getR (T := TX8) (N := 21) (C := RX8) (q0 := 0) (i := 8) E dX8_addsWire_36 iw_X8_addsWire_8 (wsM_at0 _ _ _) rfl (by decide) rfl (List.mem_of_getElem? (i := 5) rfl) ?_
  refine G.iload E dX8_addsWire_39 0 rfl ?_
  refine G.iload_n E dX8_addsWire_41 4 rfl rfl ?_
  refine G.iast (q0 := 3) E dX8_addsWire_42 (wsM_at3 _ _ _) (fun j => wsM_set3 _ _ _ _ j) (fun s6 => ?_)
  refine G.aload_n E dX8_addsWire_43 1 rfl rfl ?_
  refine G.dup E dX8_addsWire_44 rfl ?_
  refine G.getI (T := TX8) (N := 21) (C := RX8) (q0 := 0) (i := 4) E dX8_addsWire_45 iw_X8_addsWire_8 (wsM_at0 _ _ _) rfl (by decide) rfl (List.mem_of_getElem? (i := 1) rfl) (fun v7 => ?_)
  refine G.iconst (v := 1) E dX8_addsWire_48 (by decide) ?_
  refine G.iadd E dX8_addsWire_49 ?_
  refine G.putI (T := TX8) (N := 21) (C := RX8) (q0 := 0) (i := 4) (ty := .int) E dX8_addsWire_50 iw_X8_addsWire_8 tyX8 tyX8_ok nmX8 (wsM_at0 _ _ _) rfl (by decide) (List.mem_of_getElem? (i := 1) rfl) rfl (by decide +kernel) rfl rfl (Nat.le_of_ble_eq_true rfl) (wsM_set0_4 _ _ _ _) (fun s8 => ?_)
  refine G.iload E dX8_addsWire_53 0 rfl ?_
  exact G.iret E dX8_addsWire_55 rfl rfl
abbrev rm_X8_isIn : Room := { frames := 0, cells := 0, slots := 0, locals := 0 }
noncomputable def f_X8_isIn (N : Nat) (a0 : Int32) (a1 : Int32) : Option (Int32) :=
  if ((a0 >>> (a1 &&& 31)) &&& 1) = 1 then (
    some 1)
  else (
    some 0)
set_option maxHeartbeats 4000000 in
set_option maxRecDepth 100000 in
theorem c_X8_isIn {l : Launch} {D : va_G} {cy : Nat → ClassId} {h : Nat → Nat} {N : Nat} {σ : Wd} {a0 : Int32} {a1 : Int32} {r : Int32} (hW : WF (wsM cy h) (adM h)) (hr : f_X8_isIn N a0 a1 = some r) : Con l D cy (wsM cy h) (adM h) yX8_isIn wsX8_isIn rm_X8_isIn 0 0 [.int a0, .int a1] (some (.int r)) σ σ := by
  refine Con.of (ρ := Int32) (lv0 := [(0, .int a0), (1, .int a1)]) (σ := σ) (fun r : Int32 => some (.int r)) (fun _ => σ) (by decide) rfl rfl (Nat.le_of_ble_eq_true rfl) rfl hW hr (fun p e s m args below meth c E => ?_)
  unfold f_X8_isIn
  refine G.iload_n E dX8_isIn_0 0 rfl rfl ?_
  refine G.iload_n E dX8_isIn_1 1 rfl rfl ?_
  refine G.ishr E dX8_isIn_2 ?_
  refine G.iconst (v := 1) E dX8_isIn_3 (by decide) ?_
  refine G.iand E dX8_isIn_4 ?_
  refine G.iconst (v := 1) E dX8_isIn_5 (by decide) ?_
  refine G.icmp_ne (tgt := 13) E dX8_isIn_6 (by decide) ?_ ?_
  · refine G.iconst (v := 1) E dX8_isIn_9 (by decide) ?_
    refine G.goto (tgt := 14) E dX8_isIn_10 (by decide) ?_
    exact G.zretc E dX8_isIn_14 rfl rfl rfl
  · refine G.iconst (v := 0) E dX8_isIn_13 (by decide) ?_
    exact G.zretc E dX8_isIn_14 rfl rfl rfl
set_option maxHeartbeats 4000000 in
set_option maxRecDepth 100000 in
theorem iw_X8_alike_8 : ∀ w ∈ u_ws RX8 TX8 21, w ∈ wsX8_alike := fun _ h => List.mem_cons_of_mem _ (List.mem_append_right _ h)
abbrev rm_X8_alike : Room := { frames := 1, cells := 0, slots := 0, locals := 21 }
noncomputable def fl_X8_alike_5 {ρ : Type} (N : Nat) (σ : Wd) (x1 : Int32) (K : Int32 → Option ρ) : Nat → Int32 → Int32 → Option ρ
  | 0, _, _ => none
  | n + 1, x2, x3 =>
    if x3 < 0 then (
      K x2)
    else (
      gI σ 0 5 fun v1 =>
      bP (f_X8_isIn N v1 x3) fun v2 =>
      jn (fun (v3 : Int32) => ((
        rI σ 1 20 x3 fun v4 =>
        rI σ 1 20 x1 fun v5 =>
        jn (fun (v6 : Int32) => ((
          jn (fun (v7 : Int32) => ((
            fl_X8_alike_5 N σ x1 K n v7 (x3 + (-1))) : Option (ρ))) fun j129 =>
          jn (fun (_u : Unit) => ((
            j129 x2) : Option (ρ))) fun j128 =>
          if v3 = 0 then (
            j128 ())
          else (
            if v6 = 0 then (
              j128 ())
            else (
              j129 x3))) : Option (ρ))) fun j112 =>
        jn (fun (_u : Unit) => ((
          j112 1) : Option (ρ))) fun j107 =>
        jn (fun (_u : Unit) => ((
          rI σ 1 20 x3 fun v8 =>
          rI σ 2 20 x1 fun v9 =>
          jn (fun (_u : Unit) => ((
            j112 0) : Option (ρ))) fun j111 =>
          if v8 = v9 then (
            rI σ 2 20 x3 fun v10 =>
            rI σ 1 20 x1 fun v11 =>
            if v10 = v11 then (
              j107 ())
            else (
              j111 ()))
          else (
            j111 ())) : Option (ρ))) fun j77 =>
        if v4 = v5 then (
          rI σ 2 20 x3 fun v12 =>
          rI σ 2 20 x1 fun v13 =>
          if v12 = v13 then (
            j107 ())
          else (
            j77 ()))
        else (
          j77 ())) : Option (ρ))) fun j45 =>
      jn (fun (_u : Unit) => ((
        j45 0) : Option (ρ))) fun j44 =>
      if v2 = 0 then (
        j44 ())
      else (
        if x3 = x1 then (
          j44 ())
        else (
          rI σ 1 20 x1 fun v14 =>
          rI σ 2 20 x1 fun v15 =>
          if v14 = v15 then (
            j44 ())
          else (
            j45 1))))
set_option maxHeartbeats 4000000 in
set_option maxRecDepth 100000 in
theorem gl_X8_alike_5 {ρ : Type} {Q : ρ → State → Prop} {N : Nat} {σ : Wd} {x1 : Int32} {K : Int32 → Option ρ} (E : EV p s m args meth c cX8_alike 6 RX8 wsX8_alike (some .int) D cy (wsM cy h) (adM h)) (hK : ∀ (x2' : Int32), G p l e (headSpec wsX8_alike rm_X8_alike).room s m args below meth c 6 0 0 D (wsM cy h) (adM h) Q 136 [(2, .int (x2'))] [] σ (K x2')) :
  ∀ (n : Nat) (x2 : Int32) (x3 : Int32), G p l e (headSpec wsX8_alike rm_X8_alike).room s m args below meth c 6 0 0 D (wsM cy h) (adM h) Q 5 [(0, .ref (h 0)), (1, .int x1), (2, .int x2), (3, .int x3)] [] σ (fl_X8_alike_5 N σ x1 K n x2 x3) := by
  intro n
  induction n with
  | zero => intros; exact G.no
  | succ n ih =>
    intro x2 x3
    rw [fl_X8_alike_5]
    refine G.iload_n E dX8_alike_5 3 rfl rfl ?_
    refine G.if_lt (tgt := 136) E dX8_alike_6 (by decide) ?_ ?_
    · refine G.loc [2] rfl ?_
      exact hK x2
    · refine G.aload_n E dX8_alike_9 0 rfl rfl ?_
      refine G.getI (T := TX8) (N := 21) (C := RX8) (q0 := 0) (i := 5) E dX8_alike_10 iw_X8_alike_8 (wsM_at0 _ _ _) rfl (by decide) rfl (List.mem_of_getElem? (i := 1) rfl) (fun v1 => ?_)
      refine G.iload_n E dX8_alike_13 3 rfl rfl ?_
      refine G.callSi (n := 2) (As := [.int v1, .int x3]) E dX8_alike_14 (fun _ hv => c_X8_isIn E.wf hv) gX8_alike_X8_isIn rfl rfl rfl (by decide +kernel) ⟨Nat.le_of_ble_eq_true rfl, Nat.le_of_ble_eq_true rfl⟩ rfl (Nat.le_of_ble_eq_true rfl) ⟨Nat.le_of_ble_eq_true rfl, Nat.le_of_ble_eq_true rfl⟩ (fun v2 => ?_)
      refine G.jn (P := fun j => ∀ (v3 : Int32), G p l e (headSpec wsX8_alike rm_X8_alike).room s m args below meth c 6 0 0 D (wsM cy h) (adM h) Q 45 [(0, .ref (h 0)), (1, .int x1), (2, .int x2), (3, .int x3)] [.int v3] σ (j v3)) ?_ (fun j45 hj45 => ?_)
      · intro v3
        refine G.istore (lv' := [(4, .int v3), (0, .ref (h 0)), (1, .int x1), (2, .int x2), (3, .int x3)]) E dX8_alike_45 (by decide) rfl ?_
        refine G.aload_n E dX8_alike_47 1 rfl rfl ?_
        refine G.getR (T := TX8) (N := 21) (C := RX8) (q0 := 0) (i := 6) E dX8_alike_48 iw_X8_alike_8 (wsM_at0 _ _ _) rfl (by decide) rfl (List.mem_of_getElem? (i := 2) rfl) ?_
        refine G.iload_n E dX8_alike_51 4 rfl rfl ?_
        refine G.iald (q0 := 1) E dX8_alike_52 (wsM_at1 _ _ _) (fun v4 => ?_)
        refine G.aload_n E dX8_alike_53 1 rfl rfl ?_
        refine G.getR (T := TX8) (N := 21) (C := RX8) (q0 := 0) (i := 6) E dX8_alike_54 iw_X8_alike_8 (wsM_at0 _ _ _) rfl (by decide) rfl (List.mem_of_getElem? (i := 2) rfl) ?_
        refine G.iload_n E dX8_alike_57 2 rfl rfl ?_
        refine G.iald (q0 := 1) E dX8_alike_58 (wsM_at1 _ _ _) (fun v5 => ?_)
        refine G.jn (P := fun j => ∀ (v6 : Int32), G p l e (headSpec wsX8_alike rm_X8_alike).room s m args below meth c 6 0 0 D (wsM cy h) (adM h) Q 112 [(0, .ref (h 0)), (1, .int x1), (2, .int x2), (3, .int x3), (4, .int v3)] [.int v6] σ (j v6)) ?_ (fun j112 hj112 => ?_)
        · intro v6
          refine G.istore (lv' := [(5, .int v6), (0, .ref (h 0)), (1, .int x1), (2, .int x2), (3, .int x3), (4, .int v3)]) E dX8_alike_112 (by decide) rfl ?_
          refine G.iload E dX8_alike_114 5 rfl ?_
          refine G.jn (P := fun j => ∀ (v7 : Int32), G p l e (headSpec wsX8_alike rm_X8_alike).room s m args below meth c 6 0 0 D (wsM cy h) (adM h) Q 129 [(0, .ref (h 0)), (1, .int x1), (3, .int x3)] [.int v7] σ (j v7)) ?_ (fun j129 hj129 => ?_)
          · intro v7
            refine G.istore_n (lv' := [(2, .int v7), (0, .ref (h 0)), (1, .int x1), (3, .int x3)]) E dX8_alike_129 rfl (by decide) rfl ?_
            refine G.iinc (v := x3 + (-1)) (lv' := [(3, .int (x3 + (-1))), (2, .int v7), (0, .ref (h 0)), (1, .int x1)]) E dX8_alike_130 3 rfl rfl (by decide) rfl ?_
            refine G.goto (tgt := 5) E dX8_alike_133 (by decide) ?_
            refine G.loc [2, 3, 1, 0] rfl ?_
            exact ih v7 (x3 + (-1))
          · refine G.jn (P := fun j => ∀ (_u : Unit), G p l e (headSpec wsX8_alike rm_X8_alike).room s m args below meth c 6 0 0 D (wsM cy h) (adM h) Q 128 [(0, .ref (h 0)), (1, .int x1), (2, .int x2), (3, .int x3)] [] σ (j _u)) ?_ (fun j128 hj128 => ?_)
            · intro _u
              refine G.iload_n E dX8_alike_128 2 rfl rfl ?_
              refine G.loc [0, 1, 3] rfl ?_
              exact hj129 x2
            · refine G.if_eq (tgt := 128) E dX8_alike_116 (by decide) ?_ ?_
              · refine G.loc [1, 2, 3, 4] rfl ?_
                exact hj128 ()
              · refine G.iload E dX8_alike_119 0 rfl ?_
                refine G.if_eq (tgt := 128) E dX8_alike_121 (by decide) ?_ ?_
                · refine G.loc [1, 2, 3, 4] rfl ?_
                  exact hj128 ()
                · refine G.iload_n E dX8_alike_124 4 rfl rfl ?_
                  refine G.goto (tgt := 129) E dX8_alike_125 (by decide) ?_
                  refine G.loc [1, 2, 4] rfl ?_
                  exact hj129 x3
        · refine G.jn (P := fun j => ∀ (_u : Unit), G p l e (headSpec wsX8_alike rm_X8_alike).room s m args below meth c 6 0 0 D (wsM cy h) (adM h) Q 107 [(0, .ref (h 0)), (1, .int x1), (2, .int x2), (3, .int x3), (4, .int v3)] [] σ (j _u)) ?_ (fun j107 hj107 => ?_)
          · intro _u
            refine G.iconst (v := 1) E dX8_alike_107 (by decide) ?_
            refine G.goto (tgt := 112) E dX8_alike_108 (by decide) ?_
            refine G.loc [0, 1, 2, 3, 4] rfl ?_
            exact hj112 1
          · refine G.jn (P := fun j => ∀ (_u : Unit), G p l e (headSpec wsX8_alike rm_X8_alike).room s m args below meth c 6 0 0 D (wsM cy h) (adM h) Q 77 [(0, .ref (h 0)), (1, .int x1), (2, .int x2), (3, .int x3), (4, .int v3)] [] σ (j _u)) ?_ (fun j77 hj77 => ?_)
            · intro _u
              refine G.aload_n E dX8_alike_77 0 rfl rfl ?_
              refine G.getR (T := TX8) (N := 21) (C := RX8) (q0 := 0) (i := 6) E dX8_alike_78 iw_X8_alike_8 (wsM_at0 _ _ _) rfl (by decide) rfl (List.mem_of_getElem? (i := 2) rfl) ?_
              refine G.iload_n E dX8_alike_81 3 rfl rfl ?_
              refine G.iald (q0 := 1) E dX8_alike_82 (wsM_at1 _ _ _) (fun v8 => ?_)
              refine G.aload_n E dX8_alike_83 0 rfl rfl ?_
              refine G.getR (T := TX8) (N := 21) (C := RX8) (q0 := 0) (i := 7) E dX8_alike_84 iw_X8_alike_8 (wsM_at0 _ _ _) rfl (by decide) rfl (List.mem_of_getElem? (i := 3) rfl) ?_
              refine G.iload_n E dX8_alike_87 1 rfl rfl ?_
              refine G.iald (q0 := 2) E dX8_alike_88 (wsM_at2 _ _ _) (fun v9 => ?_)
              refine G.jn (P := fun j => ∀ (_u : Unit), G p l e (headSpec wsX8_alike rm_X8_alike).room s m args below meth c 6 0 0 D (wsM cy h) (adM h) Q 111 [(0, .ref (h 0)), (1, .int x1), (2, .int x2), (3, .int x3), (4, .int v3)] [] σ (j _u)) ?_ (fun j111 hj111 => ?_)
              · intro _u
                refine G.iconst (v := 0) E dX8_alike_111 (by decide) ?_
                refine G.loc [0, 1, 2, 3, 4] rfl ?_
                exact hj112 0
              · refine G.icmp_ne (tgt := 111) E dX8_alike_89 (by decide) ?_ ?_
                · refine G.aload_n E dX8_alike_92 0 rfl rfl ?_
                  refine G.getR (T := TX8) (N := 21) (C := RX8) (q0 := 0) (i := 7) E dX8_alike_93 iw_X8_alike_8 (wsM_at0 _ _ _) rfl (by decide) rfl (List.mem_of_getElem? (i := 3) rfl) ?_
                  refine G.iload_n E dX8_alike_96 3 rfl rfl ?_
                  refine G.iald (q0 := 2) E dX8_alike_97 (wsM_at2 _ _ _) (fun v10 => ?_)
                  refine G.aload_n E dX8_alike_98 0 rfl rfl ?_
                  refine G.getR (T := TX8) (N := 21) (C := RX8) (q0 := 0) (i := 6) E dX8_alike_99 iw_X8_alike_8 (wsM_at0 _ _ _) rfl (by decide) rfl (List.mem_of_getElem? (i := 2) rfl) ?_
                  refine G.iload_n E dX8_alike_102 1 rfl rfl ?_
                  refine G.iald (q0 := 1) E dX8_alike_103 (wsM_at1 _ _ _) (fun v11 => ?_)
                  refine G.icmp_ne (tgt := 111) E dX8_alike_104 (by decide) ?_ ?_
                  · refine G.loc [0, 1, 2, 3, 4] rfl ?_
                    exact hj107 ()
                  · refine G.loc [0, 1, 2, 3, 4] rfl ?_
                    exact hj111 ()
                · refine G.loc [0, 1, 2, 3, 4] rfl ?_
                  exact hj111 ()
            · refine G.icmp_ne (tgt := 77) E dX8_alike_59 (by decide) ?_ ?_
              · refine G.aload_n E dX8_alike_62 1 rfl rfl ?_
                refine G.getR (T := TX8) (N := 21) (C := RX8) (q0 := 0) (i := 7) E dX8_alike_63 iw_X8_alike_8 (wsM_at0 _ _ _) rfl (by decide) rfl (List.mem_of_getElem? (i := 3) rfl) ?_
                refine G.iload_n E dX8_alike_66 4 rfl rfl ?_
                refine G.iald (q0 := 2) E dX8_alike_67 (wsM_at2 _ _ _) (fun v12 => ?_)
                refine G.aload_n E dX8_alike_68 1 rfl rfl ?_
                refine G.getR (T := TX8) (N := 21) (C := RX8) (q0 := 0) (i := 7) E dX8_alike_69 iw_X8_alike_8 (wsM_at0 _ _ _) rfl (by decide) rfl (List.mem_of_getElem? (i := 3) rfl) ?_
                refine G.iload_n E dX8_alike_72 2 rfl rfl ?_
                refine G.iald (q0 := 2) E dX8_alike_73 (wsM_at2 _ _ _) (fun v13 => ?_)
                refine G.icmp_eq (tgt := 107) E dX8_alike_74 (by decide) ?_ ?_
                · refine G.loc [1, 2, 3, 4, 0] rfl ?_
                  exact hj107 ()
                · refine G.loc [1, 2, 3, 4, 0] rfl ?_
                  exact hj77 ()
              · refine G.loc [1, 2, 3, 4, 0] rfl ?_
                exact hj77 ()
      · refine G.jn (P := fun j => ∀ (_u : Unit), G p l e (headSpec wsX8_alike rm_X8_alike).room s m args below meth c 6 0 0 D (wsM cy h) (adM h) Q 44 [(0, .ref (h 0)), (1, .int x1), (2, .int x2), (3, .int x3)] [] σ (j _u)) ?_ (fun j44 hj44 => ?_)
        · intro _u
          refine G.iconst (v := 0) E dX8_alike_44 (by decide) ?_
          refine G.loc [0, 1, 2, 3] rfl ?_
          exact hj45 0
        · refine G.if_eq (tgt := 44) E dX8_alike_17 (by decide) ?_ ?_
          · refine G.loc [0, 1, 2, 3] rfl ?_
            exact hj44 ()
          · refine G.iload_n E dX8_alike_20 3 rfl rfl ?_
            refine G.iload_n E dX8_alike_21 1 rfl rfl ?_
            refine G.icmp_eq (tgt := 44) E dX8_alike_22 (by decide) ?_ ?_
            · refine G.loc [0, 1, 2, 3] rfl ?_
              exact hj44 ()
            · refine G.aload_n E dX8_alike_25 0 rfl rfl ?_
              refine G.getR (T := TX8) (N := 21) (C := RX8) (q0 := 0) (i := 6) E dX8_alike_26 iw_X8_alike_8 (wsM_at0 _ _ _) rfl (by decide) rfl (List.mem_of_getElem? (i := 2) rfl) ?_
              refine G.iload_n E dX8_alike_29 1 rfl rfl ?_
              refine G.iald (q0 := 1) E dX8_alike_30 (wsM_at1 _ _ _) (fun v14 => ?_)
              refine G.aload_n E dX8_alike_31 0 rfl rfl ?_
              refine G.getR (T := TX8) (N := 21) (C := RX8) (q0 := 0) (i := 7) E dX8_alike_32 iw_X8_alike_8 (wsM_at0 _ _ _) rfl (by decide) rfl (List.mem_of_getElem? (i := 3) rfl) ?_
              refine G.iload_n E dX8_alike_35 1 rfl rfl ?_
              refine G.iald (q0 := 2) E dX8_alike_36 (wsM_at2 _ _ _) (fun v15 => ?_)
              refine G.icmp_eq (tgt := 44) E dX8_alike_37 (by decide) ?_ ?_
              · refine G.loc [0, 1, 2, 3] rfl ?_
                exact hj44 ()
              · refine G.iconst (v := 1) E dX8_alike_40 (by decide) ?_
                refine G.goto (tgt := 45) E dX8_alike_41 (by decide) ?_
                refine G.loc [0, 1, 2, 3] rfl ?_
                exact hj45 1
noncomputable def f_X8_alike (N : Nat) (σ : Wd) (a0 : Int32) : Option (Int32) :=
  fl_X8_alike_5 N σ a0 (fun v16 =>
    some v16) N (-1) 19
set_option maxHeartbeats 4000000 in
set_option maxRecDepth 100000 in
theorem c_X8_alike {l : Launch} {D : va_G} {cy : Nat → ClassId} {h : Nat → Nat} {N : Nat} {σ : Wd} {a0 : Int32} {r : Int32} (hW : WF (wsM cy h) (adM h)) (hr : f_X8_alike N σ a0 = some r) : Con l D cy (wsM cy h) (adM h) yX8_alike wsX8_alike rm_X8_alike 0 0 [.ref (h 0), .int a0] (some (.int r)) σ σ := by
  refine Con.of (ρ := Int32) (lv0 := [(0, .ref (h 0)), (1, .int a0)]) (σ := σ) (fun r : Int32 => some (.int r)) (fun _ => σ) (by decide) rfl rfl (Nat.le_of_ble_eq_true rfl) rfl hW hr (fun p e s m args below meth c E => ?_)
  unfold f_X8_alike
  refine G.iconst (v := (-1)) E dX8_alike_0 (by decide) ?_
  refine G.istore_n (lv' := [(2, .int (-1)), (0, .ref (h 0)), (1, .int a0)]) E dX8_alike_1 rfl (by decide) rfl ?_
  refine G.bipush (v := 19) E dX8_alike_2 (by decide) ?_
  refine G.istore_n (lv' := [(3, .int 19), (2, .int (-1)), (0, .ref (h 0)), (1, .int a0)]) E dX8_alike_4 rfl (by decide) rfl ?_
  refine G.loc [2, 3, 1, 0] rfl ?_
  refine gl_X8_alike_5 E (fun v16 => ?_) N _ _
  refine G.iload_n E dX8_alike_136 0 rfl rfl ?_
  exact G.iret E dX8_alike_137 rfl rfl
abbrev rm_X8_in : Room := { frames := 0, cells := 0, slots := 0, locals := 0 }
noncomputable def f_X8_in (N : Nat) (a0 : Int32) (a1 : Int32) (a2 : Int32) : Option (Int32) :=
  if a0 < a1 then (
    some 0)
  else (
    if a2 < a0 then (
      some 0)
    else (
      some 1))
set_option maxHeartbeats 4000000 in
set_option maxRecDepth 100000 in
theorem c_X8_in {l : Launch} {D : va_G} {cy : Nat → ClassId} {h : Nat → Nat} {N : Nat} {σ : Wd} {a0 : Int32} {a1 : Int32} {a2 : Int32} {r : Int32} (hW : WF (wsM cy h) (adM h)) (hr : f_X8_in N a0 a1 a2 = some r) : Con l D cy (wsM cy h) (adM h) yX8_in wsX8_in rm_X8_in 0 0 [.int a0, .int a1, .int a2] (some (.int r)) σ σ := by
  refine Con.of (ρ := Int32) (lv0 := [(0, .int a0), (1, .int a1), (2, .int a2)]) (σ := σ) (fun r : Int32 => some (.int r)) (fun _ => σ) (by decide) rfl rfl (Nat.le_of_ble_eq_true rfl) rfl hW hr (fun p e s m args below meth c E => ?_)
  unfold f_X8_in
  refine G.iload_n E dX8_in_0 0 rfl rfl ?_
  refine G.iload_n E dX8_in_1 1 rfl rfl ?_
  refine G.icmp_lt (tgt := 14) E dX8_in_2 (by decide) ?_ ?_
  · refine G.iconst (v := 0) E dX8_in_14 (by decide) ?_
    exact G.zretc E dX8_in_15 rfl rfl rfl
  · refine G.iload_n E dX8_in_5 0 rfl rfl ?_
    refine G.iload_n E dX8_in_6 2 rfl rfl ?_
    refine G.icmp_gt (tgt := 14) E dX8_in_7 (by decide) ?_ ?_
    · refine G.iconst (v := 0) E dX8_in_14 (by decide) ?_
      exact G.zretc E dX8_in_15 rfl rfl rfl
    · refine G.iconst (v := 1) E dX8_in_10 (by decide) ?_
      refine G.goto (tgt := 15) E dX8_in_11 (by decide) ?_
      exact G.zretc E dX8_in_15 rfl rfl rfl
set_option maxHeartbeats 4000000 in
set_option maxRecDepth 100000 in
theorem iw_X8_isNode_8 : ∀ w ∈ u_ws RX8 TX8 21, w ∈ wsX8_isNode := fun _ h => List.mem_cons_of_mem _ (List.mem_append_right _ h)
abbrev rm_X8_isNode : Room := { frames := 1, cells := 0, slots := 0, locals := 22 }
noncomputable def f_X8_isNode (N : Nat) (σ : Wd) (a0 : Int32) : Option (Int32) :=
  bP (f_X8_in N a0 0 6) fun v1 =>
  if v1 = 0 then (
    some 0)
  else (
    gI σ 0 2 fun v2 =>
    bP (f_X8_isIn N v2 a0) fun v3 =>
    if v3 = 0 then (
      some 0)
    else (
      some 1))
set_option maxHeartbeats 4000000 in
set_option maxRecDepth 100000 in
theorem c_X8_isNode {l : Launch} {D : va_G} {cy : Nat → ClassId} {h : Nat → Nat} {N : Nat} {σ : Wd} {a0 : Int32} {r : Int32} (hW : WF (wsM cy h) (adM h)) (hr : f_X8_isNode N σ a0 = some r) : Con l D cy (wsM cy h) (adM h) yX8_isNode wsX8_isNode rm_X8_isNode 0 0 [.ref (h 0), .int a0] (some (.int r)) σ σ := by
  refine Con.of (ρ := Int32) (lv0 := [(0, .ref (h 0)), (1, .int a0)]) (σ := σ) (fun r : Int32 => some (.int r)) (fun _ => σ) (by decide) rfl rfl (Nat.le_of_ble_eq_true rfl) rfl hW hr (fun p e s m args below meth c E => ?_)
  unfold f_X8_isNode
  refine G.iload_n E dX8_isNode_0 1 rfl rfl ?_
  refine G.iconst (v := 0) E dX8_isNode_1 (by decide) ?_
  refine G.bipush (v := 6) E dX8_isNode_2 (by decide) ?_
  refine G.callSi (n := 3) (As := [.int a0, .int 0, .int 6]) E dX8_isNode_4 (fun _ hv => c_X8_in E.wf hv) gX8_isNode_X8_in rfl rfl rfl (by decide +kernel) ⟨Nat.le_of_ble_eq_true rfl, Nat.le_of_ble_eq_true rfl⟩ rfl (Nat.le_of_ble_eq_true rfl) ⟨Nat.le_of_ble_eq_true rfl, Nat.le_of_ble_eq_true rfl⟩ (fun v1 => ?_)
  refine G.if_eq (tgt := 25) E dX8_isNode_7 (by decide) ?_ ?_
  · refine G.iconst (v := 0) E dX8_isNode_25 (by decide) ?_
    exact G.zretc E dX8_isNode_26 rfl rfl rfl
  · refine G.aload_n E dX8_isNode_10 0 rfl rfl ?_
    refine G.getI (T := TX8) (N := 21) (C := RX8) (q0 := 0) (i := 2) E dX8_isNode_11 iw_X8_isNode_8 (wsM_at0 _ _ _) rfl (by decide) rfl (List.mem_of_getElem? (i := 1) rfl) (fun v2 => ?_)
    refine G.iload_n E dX8_isNode_14 1 rfl rfl ?_
    refine G.callSi (n := 2) (As := [.int v2, .int a0]) E dX8_isNode_15 (fun _ hv => c_X8_isIn E.wf hv) gX8_isNode_X8_isIn rfl rfl rfl (by decide +kernel) ⟨Nat.le_of_ble_eq_true rfl, Nat.le_of_ble_eq_true rfl⟩ rfl (Nat.le_of_ble_eq_true rfl) ⟨Nat.le_of_ble_eq_true rfl, Nat.le_of_ble_eq_true rfl⟩ (fun v3 => ?_)
    refine G.if_eq (tgt := 25) E dX8_isNode_18 (by decide) ?_ ?_
    · refine G.iconst (v := 0) E dX8_isNode_25 (by decide) ?_
      exact G.zretc E dX8_isNode_26 rfl rfl rfl
    · refine G.iconst (v := 1) E dX8_isNode_21 (by decide) ?_
      refine G.goto (tgt := 26) E dX8_isNode_22 (by decide) ?_
      exact G.zretc E dX8_isNode_26 rfl rfl rfl
set_option maxHeartbeats 4000000 in
set_option maxRecDepth 100000 in
theorem iw_X8_isEdge_8 : ∀ w ∈ u_ws RX8 TX8 21, w ∈ wsX8_isEdge := fun _ h => List.mem_cons_of_mem _ (List.mem_append_right _ h)
abbrev rm_X8_isEdge : Room := { frames := 2, cells := 0, slots := 0, locals := 43 }
noncomputable def f_X8_isEdge (N : Nat) (σ : Wd) (a0 : Int32) : Option (Int32) :=
  bP (f_X8_isNode N σ a0) fun v1 =>
  if v1 = 0 then (
    some 0)
  else (
    gI σ 0 3 fun v2 =>
    bP (f_X8_isIn N v2 a0) fun v3 =>
    if v3 = 0 then (
      some 0)
    else (
      some 1))
set_option maxHeartbeats 4000000 in
set_option maxRecDepth 100000 in
theorem c_X8_isEdge {l : Launch} {D : va_G} {cy : Nat → ClassId} {h : Nat → Nat} {N : Nat} {σ : Wd} {a0 : Int32} {r : Int32} (hW : WF (wsM cy h) (adM h)) (hr : f_X8_isEdge N σ a0 = some r) : Con l D cy (wsM cy h) (adM h) yX8_isEdge wsX8_isEdge rm_X8_isEdge 0 0 [.ref (h 0), .int a0] (some (.int r)) σ σ := by
  refine Con.of (ρ := Int32) (lv0 := [(0, .ref (h 0)), (1, .int a0)]) (σ := σ) (fun r : Int32 => some (.int r)) (fun _ => σ) (by decide) rfl rfl (Nat.le_of_ble_eq_true rfl) rfl hW hr (fun p e s m args below meth c E => ?_)
  unfold f_X8_isEdge
  refine G.aload_n E dX8_isEdge_0 0 rfl rfl ?_
  refine G.iload_n E dX8_isEdge_1 1 rfl rfl ?_
  refine G.callVi (n := 1) (T := TX8) (N := 21) (C := RX8) (a := h 0) (q0 := 0) (As := [.int a0]) E dX8_isEdge_2 (fun _ hv => c_X8_isNode E.wf hv) gX8_isEdge_X8_isNode rfl rfl rfl (by decide +kernel) ⟨Nat.le_of_ble_eq_true rfl, Nat.le_of_ble_eq_true rfl⟩ (wsM_at0 _ _ _) rfl rfl (Nat.le_of_ble_eq_true rfl) ⟨Nat.le_of_ble_eq_true rfl, Nat.le_of_ble_eq_true rfl⟩ (fun v1 => ?_)
  refine G.if_eq (tgt := 23) E dX8_isEdge_5 (by decide) ?_ ?_
  · refine G.iconst (v := 0) E dX8_isEdge_23 (by decide) ?_
    exact G.zretc E dX8_isEdge_24 rfl rfl rfl
  · refine G.aload_n E dX8_isEdge_8 0 rfl rfl ?_
    refine G.getI (T := TX8) (N := 21) (C := RX8) (q0 := 0) (i := 3) E dX8_isEdge_9 iw_X8_isEdge_8 (wsM_at0 _ _ _) rfl (by decide) rfl (List.mem_of_getElem? (i := 1) rfl) (fun v2 => ?_)
    refine G.iload_n E dX8_isEdge_12 1 rfl rfl ?_
    refine G.callSi (n := 2) (As := [.int v2, .int a0]) E dX8_isEdge_13 (fun _ hv => c_X8_isIn E.wf hv) gX8_isEdge_X8_isIn rfl rfl rfl (by decide +kernel) ⟨Nat.le_of_ble_eq_true rfl, Nat.le_of_ble_eq_true rfl⟩ rfl (Nat.le_of_ble_eq_true rfl) ⟨Nat.le_of_ble_eq_true rfl, Nat.le_of_ble_eq_true rfl⟩ (fun v3 => ?_)
    refine G.if_eq (tgt := 23) E dX8_isEdge_16 (by decide) ?_ ?_
    · refine G.iconst (v := 0) E dX8_isEdge_23 (by decide) ?_
      exact G.zretc E dX8_isEdge_24 rfl rfl rfl
    · refine G.iconst (v := 1) E dX8_isEdge_19 (by decide) ?_
      refine G.goto (tgt := 24) E dX8_isEdge_20 (by decide) ?_
      exact G.zretc E dX8_isEdge_24 rfl rfl rfl
set_option maxHeartbeats 4000000 in
set_option maxRecDepth 100000 in
theorem iw_X8_marks_8 : ∀ w ∈ u_ws RX8 TX8 21, w ∈ wsX8_marks := fun _ h => List.mem_cons_of_mem _ (List.mem_append_right _ h)
abbrev rm_X8_marks : Room := { frames := 0, cells := 0, slots := 0, locals := 0 }
noncomputable def fl_X8_marks_2 {ρ : Type} (N : Nat) (x1 : Int32) (x2 : Int32) (K : Wd → Option ρ) : Nat → Int32 → Wd → Option ρ
  | 0, _, _ => none
  | n + 1, x3, s0 =>
    if 7 ≤ x3 then (
      K s0)
    else (
      rI s0 6 7 x3 fun v1 =>
      jn (fun (v2 : Int32) => ((
        aI s0 6 7 x3 v2 fun s3 =>
        fl_X8_marks_2 N x1 x2 K n (x3 + 1) s3) : Option (ρ))) fun j33 =>
      if v1 = x1 then (
        j33 x2)
      else (
        rI s0 6 7 x3 fun v4 =>
        j33 v4))
set_option maxHeartbeats 4000000 in
set_option maxRecDepth 100000 in
theorem gl_X8_marks_2 {ρ : Type} {Q : ρ → State → Prop} {N : Nat} {x1 : Int32} {x2 : Int32} {K : Wd → Option ρ} (E : EV p s m args meth c cX8_marks 4 RX8 wsX8_marks none D cy (wsM cy h) (adM h)) (hK : ∀ (s' : Wd), G p l e (headSpec wsX8_marks rm_X8_marks).room s m args below meth c 4 0 0 D (wsM cy h) (adM h) Q 40 [] [] s' (K s')) :
  ∀ (n : Nat) (x3 : Int32) (s0 : Wd), G p l e (headSpec wsX8_marks rm_X8_marks).room s m args below meth c 4 0 0 D (wsM cy h) (adM h) Q 2 [(0, .ref (h 0)), (1, .int x1), (2, .int x2), (3, .int x3)] [] s0 (fl_X8_marks_2 N x1 x2 K n x3 s0) := by
  intro n
  induction n with
  | zero => intros; exact G.no
  | succ n ih =>
    intro x3 s0
    rw [fl_X8_marks_2]
    refine G.iload_n E dX8_marks_2 3 rfl rfl ?_
    refine G.bipush (v := 7) E dX8_marks_3 (by decide) ?_
    refine G.icmp_ge (tgt := 40) E dX8_marks_5 (by decide) ?_ ?_
    · refine G.loc [] rfl ?_
      exact hK s0
    · refine G.aload_n E dX8_marks_8 0 rfl rfl ?_
      refine G.getR (T := TX8) (N := 21) (C := RX8) (q0 := 0) (i := 12) E dX8_marks_9 iw_X8_marks_8 (wsM_at0 _ _ _) rfl (by decide) rfl (List.mem_of_getElem? (i := 1) rfl) ?_
      refine G.iload_n E dX8_marks_12 3 rfl rfl ?_
      refine G.aload_n E dX8_marks_13 0 rfl rfl ?_
      refine G.getR (T := TX8) (N := 21) (C := RX8) (q0 := 0) (i := 12) E dX8_marks_14 iw_X8_marks_8 (wsM_at0 _ _ _) rfl (by decide) rfl (List.mem_of_getElem? (i := 1) rfl) ?_
      refine G.iload_n E dX8_marks_17 3 rfl rfl ?_
      refine G.iald (q0 := 6) E dX8_marks_18 (wsM_at6 _ _ _) (fun v1 => ?_)
      refine G.iload_n E dX8_marks_19 1 rfl rfl ?_
      refine G.jn (P := fun j => ∀ (v2 : Int32), G p l e (headSpec wsX8_marks rm_X8_marks).room s m args below meth c 4 0 0 D (wsM cy h) (adM h) Q 33 [(0, .ref (h 0)), (1, .int x1), (2, .int x2), (3, .int x3)] [.int v2, .int x3, .ref (h 6)] s0 (j v2)) ?_ (fun j33 hj33 => ?_)
      · intro v2
        refine G.iast (q0 := 6) E dX8_marks_33 (wsM_at6 _ _ _) (fun j => wsM_set6 _ _ _ _ j) (fun s3 => ?_)
        refine G.iinc (v := x3 + 1) (lv' := [(3, .int (x3 + 1)), (0, .ref (h 0)), (1, .int x1), (2, .int x2)]) E dX8_marks_34 3 rfl rfl (by decide) rfl ?_
        refine G.goto (tgt := 2) E dX8_marks_37 (by decide) ?_
        refine G.loc [1, 2, 3, 0] rfl ?_
        exact ih (x3 + 1) s3
      · refine G.icmp_ne (tgt := 27) E dX8_marks_20 (by decide) ?_ ?_
        · refine G.iload_n E dX8_marks_23 2 rfl rfl ?_
          refine G.goto (tgt := 33) E dX8_marks_24 (by decide) ?_
          refine G.loc [0, 1, 2, 3] rfl ?_
          exact hj33 x2
        · refine G.aload_n E dX8_marks_27 0 rfl rfl ?_
          refine G.getR (T := TX8) (N := 21) (C := RX8) (q0 := 0) (i := 12) E dX8_marks_28 iw_X8_marks_8 (wsM_at0 _ _ _) rfl (by decide) rfl (List.mem_of_getElem? (i := 1) rfl) ?_
          refine G.iload_n E dX8_marks_31 3 rfl rfl ?_
          refine G.iald (q0 := 6) E dX8_marks_32 (wsM_at6 _ _ _) (fun v4 => ?_)
          refine G.loc [0, 1, 2, 3] rfl ?_
          exact hj33 v4
noncomputable def f_X8_marks (N : Nat) (σ : Wd) (a0 : Int32) (a1 : Int32) : Option (Wd) :=
  fl_X8_marks_2 N a0 a1 (fun s5 =>
    some s5) N 0 σ
set_option maxHeartbeats 4000000 in
set_option maxRecDepth 100000 in
theorem c_X8_marks {l : Launch} {D : va_G} {cy : Nat → ClassId} {h : Nat → Nat} {N : Nat} {σ : Wd} {a0 : Int32} {a1 : Int32} {σ1 : Wd} (hW : WF (wsM cy h) (adM h)) (hr : f_X8_marks N σ a0 a1 = some σ1) : Con l D cy (wsM cy h) (adM h) yX8_marks wsX8_marks rm_X8_marks 0 0 [.ref (h 0), .int a0, .int a1] (none) σ σ1 := by
  refine Con.of (ρ := Wd) (lv0 := [(0, .ref (h 0)), (1, .int a0), (2, .int a1)]) (σ := σ) (fun _ : Wd => none) (fun r => r) (by decide) rfl rfl (Nat.le_of_ble_eq_true rfl) rfl hW hr (fun p e s m args below meth c E => ?_)
  unfold f_X8_marks
  refine G.iconst (v := 0) E dX8_marks_0 (by decide) ?_
  refine G.istore_n (lv' := [(3, .int 0), (0, .ref (h 0)), (1, .int a0), (2, .int a1)]) E dX8_marks_1 rfl (by decide) rfl ?_
  refine G.loc [1, 2, 3, 0] rfl ?_
  refine gl_X8_marks_2 E (fun s5 => ?_) N _ _
  exact G.vret E dX8_marks_40 rfl rfl
set_option maxHeartbeats 4000000 in
set_option maxRecDepth 100000 in
theorem iw_X8_weightOf_8 : ∀ w ∈ u_ws RX8 TX8 21, w ∈ wsX8_weightOf := fun _ h => List.mem_cons_of_mem _ (List.mem_append_right _ h)
abbrev rm_X8_weightOf : Room := { frames := 1, cells := 0, slots := 0, locals := 23 }
noncomputable def fl_X8_weightOf_2 {ρ : Type} (N : Nat) (x1 : Int32) (K : Wd → Option ρ) : Nat → Int32 → Wd → Option ρ
  | 0, _, _ => none
  | n + 1, x2, s0 =>
    if 7 ≤ x2 then (
      K s0)
    else (
      aI s0 6 7 x2 x2 fun s1 =>
      fl_X8_weightOf_2 N x1 K n (x2 + 1) s1)
set_option maxHeartbeats 4000000 in
set_option maxRecDepth 100000 in
theorem gl_X8_weightOf_2 {ρ : Type} {Q : ρ → State → Prop} {N : Nat} {x1 : Int32} {K : Wd → Option ρ} (E : EV p s m args meth c cX8_weightOf 6 RX8 wsX8_weightOf (some .long) D cy (wsM cy h) (adM h)) (hK : ∀ (s' : Wd), G p l e (headSpec wsX8_weightOf rm_X8_weightOf).room s m args below meth c 6 0 0 D (wsM cy h) (adM h) Q 21 [(0, .ref (h 0)), (1, .int x1)] [] s' (K s')) :
  ∀ (n : Nat) (x2 : Int32) (s0 : Wd), G p l e (headSpec wsX8_weightOf rm_X8_weightOf).room s m args below meth c 6 0 0 D (wsM cy h) (adM h) Q 2 [(0, .ref (h 0)), (1, .int x1), (2, .int x2)] [] s0 (fl_X8_weightOf_2 N x1 K n x2 s0) := by
  intro n
  induction n with
  | zero => intros; exact G.no
  | succ n ih =>
    intro x2 s0
    rw [fl_X8_weightOf_2]
    refine G.iload_n E dX8_weightOf_2 2 rfl rfl ?_
    refine G.bipush (v := 7) E dX8_weightOf_3 (by decide) ?_
    refine G.icmp_ge (tgt := 21) E dX8_weightOf_5 (by decide) ?_ ?_
    · refine G.loc [0, 1] rfl ?_
      exact hK s0
    · refine G.aload_n E dX8_weightOf_8 0 rfl rfl ?_
      refine G.getR (T := TX8) (N := 21) (C := RX8) (q0 := 0) (i := 12) E dX8_weightOf_9 iw_X8_weightOf_8 (wsM_at0 _ _ _) rfl (by decide) rfl (List.mem_of_getElem? (i := 1) rfl) ?_
      refine G.iload_n E dX8_weightOf_12 2 rfl rfl ?_
      refine G.iload_n E dX8_weightOf_13 2 rfl rfl ?_
      refine G.iast (q0 := 6) E dX8_weightOf_14 (wsM_at6 _ _ _) (fun j => wsM_set6 _ _ _ _ j) (fun s1 => ?_)
      refine G.iinc (v := x2 + 1) (lv' := [(2, .int (x2 + 1)), (0, .ref (h 0)), (1, .int x1)]) E dX8_weightOf_15 2 rfl rfl (by decide) rfl ?_
      refine G.goto (tgt := 2) E dX8_weightOf_18 (by decide) ?_
      refine G.loc [1, 2, 0] rfl ?_
      exact ih (x2 + 1) s1
noncomputable def fl_X8_weightOf_26 {ρ : Type} (N : Nat) (x1 : Int32) (K : Int64 → Wd → Option ρ) : Nat → Int64 → Int32 → Wd → Option ρ
  | 0, _, _, _ => none
  | n + 1, x2, x4, s0 =>
    gI s0 0 4 fun v3 =>
    if v3 ≤ x4 then (
      K x2 s0)
    else (
      if (lg_cmp x2 0) ≤ 0 then (
        K x2 s0)
      else (
        bP (f_X8_isIn N x1 x4) fun v4 =>
        jn (fun (v5 : Int64) (s6 : Wd) => ((
          fl_X8_weightOf_26 N x1 K n v5 (x4 + 1) s6) : Option (ρ))) fun j132 =>
        if v4 = 0 then (
          j132 x2 s0)
        else (
          rI s0 1 20 x4 fun v7 =>
          rI s0 6 7 v7 fun v8 =>
          rI s0 2 20 x4 fun v9 =>
          rI s0 6 7 v9 fun v10 =>
          jn (fun (v11 : Int32) => ((
            jn (fun (v12 : Int64) => ((
              rI s0 1 20 x4 fun v13 =>
              rI s0 6 7 v13 fun v14 =>
              rI s0 2 20 x4 fun v15 =>
              rI s0 6 7 v15 fun v16 =>
              bP (f_X8_marks N s0 v14 v16) fun s17 =>
              j132 v12 s17) : Option (ρ))) fun j103 =>
            if v11 = 0 then (
              rI s0 3 20 x4 fun v18 =>
              j103 (x2 * (Int32.toInt64 v18)))
            else (
              j103 0)) : Option (ρ))) fun j82 =>
          if v8 = v10 then (
            j82 1)
          else (
            j82 0))))
set_option maxHeartbeats 4000000 in
set_option maxRecDepth 100000 in
theorem gl_X8_weightOf_26 {ρ : Type} {Q : ρ → State → Prop} {N : Nat} {x1 : Int32} {K : Int64 → Wd → Option ρ} (E : EV p s m args meth c cX8_weightOf 6 RX8 wsX8_weightOf (some .long) D cy (wsM cy h) (adM h)) (hK : ∀ (x2' : Int64) (s' : Wd), G p l e (headSpec wsX8_weightOf rm_X8_weightOf).room s m args below meth c 6 0 0 D (wsM cy h) (adM h) Q 138 [(2, .long (x2'))] [] s' (K x2' s')) :
  ∀ (n : Nat) (x2 : Int64) (x4 : Int32) (s0 : Wd), G p l e (headSpec wsX8_weightOf rm_X8_weightOf).room s m args below meth c 6 0 0 D (wsM cy h) (adM h) Q 26 [(0, .ref (h 0)), (1, .int x1), (2, .long x2), (4, .int x4)] [] s0 (fl_X8_weightOf_26 N x1 K n x2 x4 s0) := by
  intro n
  induction n with
  | zero => intros; exact G.no
  | succ n ih =>
    intro x2 x4 s0
    rw [fl_X8_weightOf_26]
    refine G.iload E dX8_weightOf_26 3 rfl ?_
    refine G.aload_n E dX8_weightOf_28 0 rfl rfl ?_
    refine G.getI (T := TX8) (N := 21) (C := RX8) (q0 := 0) (i := 4) E dX8_weightOf_29 iw_X8_weightOf_8 (wsM_at0 _ _ _) rfl (by decide) rfl (List.mem_of_getElem? (i := 2) rfl) (fun v3 => ?_)
    refine G.icmp_ge (tgt := 138) E dX8_weightOf_32 (by decide) ?_ ?_
    · refine G.loc [2] rfl ?_
      exact hK x2 s0
    · refine G.lload_n E dX8_weightOf_35 2 rfl rfl ?_
      refine G.lconst (v := 0) E dX8_weightOf_36 (by decide) ?_
      refine G.lcmp E dX8_weightOf_37 ?_
      refine G.if_le (tgt := 138) E dX8_weightOf_38 (by decide) ?_ ?_
      · refine G.loc [2] rfl ?_
        exact hK x2 s0
      · refine G.iload_n E dX8_weightOf_41 1 rfl rfl ?_
        refine G.iload E dX8_weightOf_42 3 rfl ?_
        refine G.callSi (n := 2) (As := [.int x1, .int x4]) E dX8_weightOf_44 (fun _ hv => c_X8_isIn E.wf hv) gX8_weightOf_X8_isIn rfl rfl rfl (by decide +kernel) ⟨Nat.le_of_ble_eq_true rfl, Nat.le_of_ble_eq_true rfl⟩ rfl (Nat.le_of_ble_eq_true rfl) ⟨Nat.le_of_ble_eq_true rfl, Nat.le_of_ble_eq_true rfl⟩ (fun v4 => ?_)
        refine G.jn (P := fun j => ∀ (v5 : Int64) (s6 : Wd), G p l e (headSpec wsX8_weightOf rm_X8_weightOf).room s m args below meth c 6 0 0 D (wsM cy h) (adM h) Q 132 [(0, .ref (h 0)), (1, .int x1), (2, .long v5), (4, .int x4)] [] s6 (j v5 s6)) ?_ (fun j132 hj132 => ?_)
        · intro v5 s6
          refine G.iinc (v := x4 + 1) (lv' := [(4, .int (x4 + 1)), (0, .ref (h 0)), (1, .int x1), (2, .long v5)]) E dX8_weightOf_132 3 rfl rfl (by decide) rfl ?_
          refine G.goto (tgt := 26) E dX8_weightOf_135 (by decide) ?_
          refine G.loc [1, 2, 3, 0] rfl ?_
          exact ih v5 (x4 + 1) s6
        · refine G.if_eq (tgt := 132) E dX8_weightOf_47 (by decide) ?_ ?_
          · refine G.loc [0, 1, 2, 3] rfl ?_
            exact hj132 x2 s0
          · refine G.aload_n E dX8_weightOf_50 0 rfl rfl ?_
            refine G.getR (T := TX8) (N := 21) (C := RX8) (q0 := 0) (i := 12) E dX8_weightOf_51 iw_X8_weightOf_8 (wsM_at0 _ _ _) rfl (by decide) rfl (List.mem_of_getElem? (i := 1) rfl) ?_
            refine G.aload_n E dX8_weightOf_54 0 rfl rfl ?_
            refine G.getR (T := TX8) (N := 21) (C := RX8) (q0 := 0) (i := 6) E dX8_weightOf_55 iw_X8_weightOf_8 (wsM_at0 _ _ _) rfl (by decide) rfl (List.mem_of_getElem? (i := 3) rfl) ?_
            refine G.iload E dX8_weightOf_58 3 rfl ?_
            refine G.iald (q0 := 1) E dX8_weightOf_60 (wsM_at1 _ _ _) (fun v7 => ?_)
            refine G.iald (q0 := 6) E dX8_weightOf_61 (wsM_at6 _ _ _) (fun v8 => ?_)
            refine G.aload_n E dX8_weightOf_62 0 rfl rfl ?_
            refine G.getR (T := TX8) (N := 21) (C := RX8) (q0 := 0) (i := 12) E dX8_weightOf_63 iw_X8_weightOf_8 (wsM_at0 _ _ _) rfl (by decide) rfl (List.mem_of_getElem? (i := 1) rfl) ?_
            refine G.aload_n E dX8_weightOf_66 0 rfl rfl ?_
            refine G.getR (T := TX8) (N := 21) (C := RX8) (q0 := 0) (i := 7) E dX8_weightOf_67 iw_X8_weightOf_8 (wsM_at0 _ _ _) rfl (by decide) rfl (List.mem_of_getElem? (i := 4) rfl) ?_
            refine G.iload E dX8_weightOf_70 3 rfl ?_
            refine G.iald (q0 := 2) E dX8_weightOf_72 (wsM_at2 _ _ _) (fun v9 => ?_)
            refine G.iald (q0 := 6) E dX8_weightOf_73 (wsM_at6 _ _ _) (fun v10 => ?_)
            refine G.jn (P := fun j => ∀ (v11 : Int32), G p l e (headSpec wsX8_weightOf rm_X8_weightOf).room s m args below meth c 6 0 0 D (wsM cy h) (adM h) Q 82 [(0, .ref (h 0)), (1, .int x1), (2, .long x2), (4, .int x4)] [.int v11] s0 (j v11)) ?_ (fun j82 hj82 => ?_)
            · intro v11
              refine G.istore (lv' := [(5, .int v11), (0, .ref (h 0)), (1, .int x1), (2, .long x2), (4, .int x4)]) E dX8_weightOf_82 (by decide) rfl ?_
              refine G.iload E dX8_weightOf_84 0 rfl ?_
              refine G.jn (P := fun j => ∀ (v12 : Int64), G p l e (headSpec wsX8_weightOf rm_X8_weightOf).room s m args below meth c 6 0 0 D (wsM cy h) (adM h) Q 103 [(0, .ref (h 0)), (1, .int x1), (4, .int x4)] [.long v12] s0 (j v12)) ?_ (fun j103 hj103 => ?_)
              · intro v12
                refine G.lstore_n (lv' := [(2, .long v12), (0, .ref (h 0)), (1, .int x1), (4, .int x4)]) E dX8_weightOf_103 rfl (by decide) rfl ?_
                refine G.aload_n E dX8_weightOf_104 1 rfl rfl ?_
                refine G.aload_n E dX8_weightOf_105 1 rfl rfl ?_
                refine G.getR (T := TX8) (N := 21) (C := RX8) (q0 := 0) (i := 12) E dX8_weightOf_106 iw_X8_weightOf_8 (wsM_at0 _ _ _) rfl (by decide) rfl (List.mem_of_getElem? (i := 1) rfl) ?_
                refine G.aload_n E dX8_weightOf_109 1 rfl rfl ?_
                refine G.getR (T := TX8) (N := 21) (C := RX8) (q0 := 0) (i := 6) E dX8_weightOf_110 iw_X8_weightOf_8 (wsM_at0 _ _ _) rfl (by decide) rfl (List.mem_of_getElem? (i := 3) rfl) ?_
                refine G.iload E dX8_weightOf_113 3 rfl ?_
                refine G.iald (q0 := 1) E dX8_weightOf_115 (wsM_at1 _ _ _) (fun v13 => ?_)
                refine G.iald (q0 := 6) E dX8_weightOf_116 (wsM_at6 _ _ _) (fun v14 => ?_)
                refine G.aload_n E dX8_weightOf_117 1 rfl rfl ?_
                refine G.getR (T := TX8) (N := 21) (C := RX8) (q0 := 0) (i := 12) E dX8_weightOf_118 iw_X8_weightOf_8 (wsM_at0 _ _ _) rfl (by decide) rfl (List.mem_of_getElem? (i := 1) rfl) ?_
                refine G.aload_n E dX8_weightOf_121 1 rfl rfl ?_
                refine G.getR (T := TX8) (N := 21) (C := RX8) (q0 := 0) (i := 7) E dX8_weightOf_122 iw_X8_weightOf_8 (wsM_at0 _ _ _) rfl (by decide) rfl (List.mem_of_getElem? (i := 4) rfl) ?_
                refine G.iload E dX8_weightOf_125 3 rfl ?_
                refine G.iald (q0 := 2) E dX8_weightOf_127 (wsM_at2 _ _ _) (fun v15 => ?_)
                refine G.iald (q0 := 6) E dX8_weightOf_128 (wsM_at6 _ _ _) (fun v16 => ?_)
                refine G.callVv (n := 2) (T := TX8) (N := 21) (C := RX8) (a := h 0) (q0 := 0) (As := [.int v14, .int v16]) E dX8_weightOf_129 (fun _ hv => c_X8_marks E.wf hv) gX8_weightOf_X8_marks rfl rfl rfl (by decide +kernel) ⟨Nat.le_of_ble_eq_true rfl, Nat.le_of_ble_eq_true rfl⟩ (wsM_at0 _ _ _) rfl rfl (Nat.le_of_ble_eq_true rfl) ⟨Nat.le_of_ble_eq_true rfl, Nat.le_of_ble_eq_true rfl⟩ (fun s17 => ?_)
                refine G.loc [1, 2, 0, 3] rfl ?_
                exact hj132 v12 s17
              · refine G.if_eq (tgt := 93) E dX8_weightOf_86 (by decide) ?_ ?_
                · refine G.lload_n E dX8_weightOf_93 3 rfl rfl ?_
                  refine G.aload_n E dX8_weightOf_94 1 rfl rfl ?_
                  refine G.getR (T := TX8) (N := 21) (C := RX8) (q0 := 0) (i := 8) E dX8_weightOf_95 iw_X8_weightOf_8 (wsM_at0 _ _ _) rfl (by decide) rfl (List.mem_of_getElem? (i := 5) rfl) ?_
                  refine G.iload E dX8_weightOf_98 4 rfl ?_
                  refine G.iald (q0 := 3) E dX8_weightOf_100 (wsM_at3 _ _ _) (fun v18 => ?_)
                  refine G.i2l E dX8_weightOf_101 ?_
                  refine G.lmul E dX8_weightOf_102 ?_
                  refine G.loc [1, 2, 4] rfl ?_
                  exact hj103 (x2 * (Int32.toInt64 v18))
                · refine G.lconst (v := 0) E dX8_weightOf_89 (by decide) ?_
                  refine G.goto (tgt := 103) E dX8_weightOf_90 (by decide) ?_
                  refine G.loc [1, 2, 4] rfl ?_
                  exact hj103 0
            · refine G.icmp_ne (tgt := 81) E dX8_weightOf_74 (by decide) ?_ ?_
              · refine G.iconst (v := 1) E dX8_weightOf_77 (by decide) ?_
                refine G.goto (tgt := 82) E dX8_weightOf_78 (by decide) ?_
                refine G.loc [0, 1, 2, 3] rfl ?_
                exact hj82 1
              · refine G.iconst (v := 0) E dX8_weightOf_81 (by decide) ?_
                refine G.loc [0, 1, 2, 3] rfl ?_
                exact hj82 0
noncomputable def f_X8_weightOf (N : Nat) (σ : Wd) (a0 : Int32) : Option (Int64 × Wd) :=
  fl_X8_weightOf_2 N a0 (fun s2 =>
    fl_X8_weightOf_26 N a0 (fun v19 s20 =>
      some (v19, s20)) N 1 0 s2) N 0 σ
set_option maxHeartbeats 4000000 in
set_option maxRecDepth 100000 in
theorem c_X8_weightOf {l : Launch} {D : va_G} {cy : Nat → ClassId} {h : Nat → Nat} {N : Nat} {σ : Wd} {a0 : Int32} {r : Int64} {σ1 : Wd} (hW : WF (wsM cy h) (adM h)) (hr : f_X8_weightOf N σ a0 = some (r, σ1)) : Con l D cy (wsM cy h) (adM h) yX8_weightOf wsX8_weightOf rm_X8_weightOf 0 0 [.ref (h 0), .int a0] (some (.long r)) σ σ1 := by
  refine Con.of (ρ := Int64 × Wd) (lv0 := [(0, .ref (h 0)), (1, .int a0)]) (σ := σ) (fun r : Int64 × Wd => some (.long r.1)) (fun r => r.2) (by decide) rfl rfl (Nat.le_of_ble_eq_true rfl) rfl hW hr (fun p e s m args below meth c E => ?_)
  unfold f_X8_weightOf
  refine G.iconst (v := 0) E dX8_weightOf_0 (by decide) ?_
  refine G.istore_n (lv' := [(2, .int 0), (0, .ref (h 0)), (1, .int a0)]) E dX8_weightOf_1 rfl (by decide) rfl ?_
  refine G.loc [1, 2, 0] rfl ?_
  refine gl_X8_weightOf_2 E (fun s2 => ?_) N _ _
  refine G.lconst (v := 1) E dX8_weightOf_21 (by decide) ?_
  refine G.lstore_n (lv' := [(2, .long 1), (0, .ref (h 0)), (1, .int a0)]) E dX8_weightOf_22 rfl (by decide) rfl ?_
  refine G.iconst (v := 0) E dX8_weightOf_23 (by decide) ?_
  refine G.istore (lv' := [(4, .int 0), (2, .long 1), (0, .ref (h 0)), (1, .int a0)]) E dX8_weightOf_24 (by decide) rfl ?_
  refine G.loc [2, 3, 1, 0] rfl ?_
  refine gl_X8_weightOf_26 E (fun v19 s20 => ?_) N _ _ _
  refine G.lload_n E dX8_weightOf_138 0 rfl rfl ?_
  exact G.lret E dX8_weightOf_139 rfl rfl
abbrev rm_X8_many : Room := { frames := 0, cells := 0, slots := 0, locals := 0 }
noncomputable def fl_X8_many_4 {ρ : Type} (N : Nat) (x0 : Int32) (K : Int32 → Option ρ) : Nat → Int32 → Int32 → Option ρ
  | 0, _, _ => none
  | n + 1, x1, x2 =>
    if 20 ≤ x2 then (
      K x1)
    else (
      lI (x1 + ((x0 >>> (x2 &&& 31)) &&& 1)) fun v1 =>
      fl_X8_many_4 N x0 K n v1 (x2 + 1))
set_option maxHeartbeats 4000000 in
set_option maxRecDepth 100000 in
theorem gl_X8_many_4 {ρ : Type} {Q : ρ → State → Prop} {N : Nat} {σ : Wd} {x0 : Int32} {K : Int32 → Option ρ} (E : EV p s m args meth c cX8_many 3 RX8 wsX8_many (some .int) D cy (wsM cy h) (adM h)) (hK : ∀ (x1' : Int32), G p l e (headSpec wsX8_many rm_X8_many).room s m args below meth c 3 0 0 D (wsM cy h) (adM h) Q 24 [(1, .int (x1'))] [] σ (K x1')) :
  ∀ (n : Nat) (x1 : Int32) (x2 : Int32), G p l e (headSpec wsX8_many rm_X8_many).room s m args below meth c 3 0 0 D (wsM cy h) (adM h) Q 4 [(0, .int x0), (1, .int x1), (2, .int x2)] [] σ (fl_X8_many_4 N x0 K n x1 x2) := by
  intro n
  induction n with
  | zero => intros; exact G.no
  | succ n ih =>
    intro x1 x2
    rw [fl_X8_many_4]
    refine G.iload_n E dX8_many_4 2 rfl rfl ?_
    refine G.bipush (v := 20) E dX8_many_5 (by decide) ?_
    refine G.icmp_ge (tgt := 24) E dX8_many_7 (by decide) ?_ ?_
    · refine G.loc [1] rfl ?_
      exact hK x1
    · refine G.iload_n E dX8_many_10 1 rfl rfl ?_
      refine G.iload_n E dX8_many_11 0 rfl rfl ?_
      refine G.iload_n E dX8_many_12 2 rfl rfl ?_
      refine G.ishr E dX8_many_13 ?_
      refine G.iconst (v := 1) E dX8_many_14 (by decide) ?_
      refine G.iand E dX8_many_15 ?_
      refine G.iadd E dX8_many_16 ?_
      refine G.letI (fun v1 => ?_)
      refine G.istore_n (lv' := [(1, .int v1), (0, .int x0), (2, .int x2)]) E dX8_many_17 rfl (by decide) rfl ?_
      refine G.iinc (v := x2 + 1) (lv' := [(2, .int (x2 + 1)), (1, .int v1), (0, .int x0)]) E dX8_many_18 2 rfl rfl (by decide) rfl ?_
      refine G.goto (tgt := 4) E dX8_many_21 (by decide) ?_
      refine G.loc [2, 1, 0] rfl ?_
      exact ih v1 (x2 + 1)
noncomputable def f_X8_many (N : Nat) (a0 : Int32) : Option (Int32) :=
  fl_X8_many_4 N a0 (fun v2 =>
    some v2) N 0 0
set_option maxHeartbeats 4000000 in
set_option maxRecDepth 100000 in
theorem c_X8_many {l : Launch} {D : va_G} {cy : Nat → ClassId} {h : Nat → Nat} {N : Nat} {σ : Wd} {a0 : Int32} {r : Int32} (hW : WF (wsM cy h) (adM h)) (hr : f_X8_many N a0 = some r) : Con l D cy (wsM cy h) (adM h) yX8_many wsX8_many rm_X8_many 0 0 [.int a0] (some (.int r)) σ σ := by
  refine Con.of (ρ := Int32) (lv0 := [(0, .int a0)]) (σ := σ) (fun r : Int32 => some (.int r)) (fun _ => σ) (by decide) rfl rfl (Nat.le_of_ble_eq_true rfl) rfl hW hr (fun p e s m args below meth c E => ?_)
  unfold f_X8_many
  refine G.iconst (v := 0) E dX8_many_0 (by decide) ?_
  refine G.istore_n (lv' := [(1, .int 0), (0, .int a0)]) E dX8_many_1 rfl (by decide) rfl ?_
  refine G.iconst (v := 0) E dX8_many_2 (by decide) ?_
  refine G.istore_n (lv' := [(2, .int 0), (1, .int 0), (0, .int a0)]) E dX8_many_3 rfl (by decide) rfl ?_
  refine G.loc [2, 1, 0] rfl ?_
  refine gl_X8_many_4 E (fun v2 => ?_) N _ _
  refine G.iload_n E dX8_many_24 0 rfl rfl ?_
  exact G.iret E dX8_many_25 rfl rfl
set_option maxHeartbeats 4000000 in
set_option maxRecDepth 100000 in
theorem iw_X8_countsEdges_8 : ∀ w ∈ u_ws RX8 TX8 21, w ∈ wsX8_countsEdges := fun _ h => List.mem_cons_of_mem _ (List.mem_append_right _ h)
abbrev rm_X8_countsEdges : Room := { frames := 1, cells := 0, slots := 0, locals := 21 }
noncomputable def fl_X8_countsEdges_2 {ρ : Type} (N : Nat) (K : Wd → Option ρ) : Nat → Int32 → Wd → Option ρ
  | 0, _, _ => none
  | n + 1, x1, s0 =>
    if 7 ≤ x1 then (
      K s0)
    else (
      aI s0 7 7 x1 0 fun s1 =>
      fl_X8_countsEdges_2 N K n (x1 + 1) s1)
set_option maxHeartbeats 4000000 in
set_option maxRecDepth 100000 in
theorem gl_X8_countsEdges_2 {ρ : Type} {Q : ρ → State → Prop} {N : Nat} {K : Wd → Option ρ} (E : EV p s m args meth c cX8_countsEdges 2 RX8 wsX8_countsEdges none D cy (wsM cy h) (adM h)) (hK : ∀ (s' : Wd), G p l e (headSpec wsX8_countsEdges rm_X8_countsEdges).room s m args below meth c 2 0 0 D (wsM cy h) (adM h) Q 21 [(0, .ref (h 0))] [] s' (K s')) :
  ∀ (n : Nat) (x1 : Int32) (s0 : Wd), G p l e (headSpec wsX8_countsEdges rm_X8_countsEdges).room s m args below meth c 2 0 0 D (wsM cy h) (adM h) Q 2 [(0, .ref (h 0)), (1, .int x1)] [] s0 (fl_X8_countsEdges_2 N K n x1 s0) := by
  intro n
  induction n with
  | zero => intros; exact G.no
  | succ n ih =>
    intro x1 s0
    rw [fl_X8_countsEdges_2]
    refine G.iload_n E dX8_countsEdges_2 1 rfl rfl ?_
    refine G.bipush (v := 7) E dX8_countsEdges_3 (by decide) ?_
    refine G.icmp_ge (tgt := 21) E dX8_countsEdges_5 (by decide) ?_ ?_
    · refine G.loc [0] rfl ?_
      exact hK s0
    · refine G.aload_n E dX8_countsEdges_8 0 rfl rfl ?_
      refine G.getR (T := TX8) (N := 21) (C := RX8) (q0 := 0) (i := 13) E dX8_countsEdges_9 iw_X8_countsEdges_8 (wsM_at0 _ _ _) rfl (by decide) rfl (List.mem_of_getElem? (i := 1) rfl) ?_
      refine G.iload_n E dX8_countsEdges_12 1 rfl rfl ?_
      refine G.iconst (v := 0) E dX8_countsEdges_13 (by decide) ?_
      refine G.iast (q0 := 7) E dX8_countsEdges_14 (wsM_at7 _ _ _) (fun j => wsM_set7 _ _ _ _ j) (fun s1 => ?_)
      refine G.iinc (v := x1 + 1) (lv' := [(1, .int (x1 + 1)), (0, .ref (h 0))]) E dX8_countsEdges_15 1 rfl rfl (by decide) rfl ?_
      refine G.goto (tgt := 2) E dX8_countsEdges_18 (by decide) ?_
      refine G.loc [1, 0] rfl ?_
      exact ih (x1 + 1) s1
noncomputable def fl_X8_countsEdges_23 {ρ : Type} (N : Nat) (K : Wd → Option ρ) : Nat → Int32 → Wd → Option ρ
  | 0, _, _ => none
  | n + 1, x1, s0 =>
    if 7 ≤ x1 then (
      K s0)
    else (
      rI s0 6 7 x1 fun v3 =>
      rI s0 7 7 v3 fun v4 =>
      gI s0 0 2 fun v5 =>
      bP (f_X8_isIn N v5 x1) fun v6 =>
      jn (fun (v7 : Int32) => ((
        aI s0 7 7 v3 (v4 + v7) fun s8 =>
        fl_X8_countsEdges_23 N K n (x1 + 1) s8) : Option (ρ))) fun j68 =>
      jn (fun (_u : Unit) => ((
        j68 0) : Option (ρ))) fun j67 =>
      if v6 = 0 then (
        j67 ())
      else (
        gI s0 0 3 fun v9 =>
        bP (f_X8_isIn N v9 x1) fun v10 =>
        if v10 = 0 then (
          j67 ())
        else (
          j68 1)))
set_option maxHeartbeats 4000000 in
set_option maxRecDepth 100000 in
theorem gl_X8_countsEdges_23 {ρ : Type} {Q : ρ → State → Prop} {N : Nat} {K : Wd → Option ρ} (E : EV p s m args meth c cX8_countsEdges 2 RX8 wsX8_countsEdges none D cy (wsM cy h) (adM h)) (hK : ∀ (s' : Wd), G p l e (headSpec wsX8_countsEdges rm_X8_countsEdges).room s m args below meth c 2 0 0 D (wsM cy h) (adM h) Q 76 [] [] s' (K s')) :
  ∀ (n : Nat) (x1 : Int32) (s0 : Wd), G p l e (headSpec wsX8_countsEdges rm_X8_countsEdges).room s m args below meth c 2 0 0 D (wsM cy h) (adM h) Q 23 [(0, .ref (h 0)), (1, .int x1)] [] s0 (fl_X8_countsEdges_23 N K n x1 s0) := by
  intro n
  induction n with
  | zero => intros; exact G.no
  | succ n ih =>
    intro x1 s0
    rw [fl_X8_countsEdges_23]
    refine G.iload_n E dX8_countsEdges_23 1 rfl rfl ?_
    refine G.bipush (v := 7) E dX8_countsEdges_24 (by decide) ?_
    refine G.icmp_ge (tgt := 76) E dX8_countsEdges_26 (by decide) ?_ ?_
    · refine G.loc [] rfl ?_
      exact hK s0
    · refine G.aload_n E dX8_countsEdges_29 0 rfl rfl ?_
      refine G.getR (T := TX8) (N := 21) (C := RX8) (q0 := 0) (i := 13) E dX8_countsEdges_30 iw_X8_countsEdges_8 (wsM_at0 _ _ _) rfl (by decide) rfl (List.mem_of_getElem? (i := 1) rfl) ?_
      refine G.aload_n E dX8_countsEdges_33 0 rfl rfl ?_
      refine G.getR (T := TX8) (N := 21) (C := RX8) (q0 := 0) (i := 12) E dX8_countsEdges_34 iw_X8_countsEdges_8 (wsM_at0 _ _ _) rfl (by decide) rfl (List.mem_of_getElem? (i := 2) rfl) ?_
      refine G.iload_n E dX8_countsEdges_37 1 rfl rfl ?_
      refine G.iald (q0 := 6) E dX8_countsEdges_38 (wsM_at6 _ _ _) (fun v3 => ?_)
      refine G.dup2 E dX8_countsEdges_39 rfl rfl ?_
      refine G.iald (q0 := 7) E dX8_countsEdges_40 (wsM_at7 _ _ _) (fun v4 => ?_)
      refine G.aload_n E dX8_countsEdges_41 0 rfl rfl ?_
      refine G.getI (T := TX8) (N := 21) (C := RX8) (q0 := 0) (i := 2) E dX8_countsEdges_42 iw_X8_countsEdges_8 (wsM_at0 _ _ _) rfl (by decide) rfl (List.mem_of_getElem? (i := 3) rfl) (fun v5 => ?_)
      refine G.iload_n E dX8_countsEdges_45 1 rfl rfl ?_
      refine G.callSi (n := 2) (As := [.int v5, .int x1]) E dX8_countsEdges_46 (fun _ hv => c_X8_isIn E.wf hv) gX8_countsEdges_X8_isIn rfl rfl rfl (by decide +kernel) ⟨Nat.le_of_ble_eq_true rfl, Nat.le_of_ble_eq_true rfl⟩ rfl (Nat.le_of_ble_eq_true rfl) ⟨Nat.le_of_ble_eq_true rfl, Nat.le_of_ble_eq_true rfl⟩ (fun v6 => ?_)
      refine G.jn (P := fun j => ∀ (v7 : Int32), G p l e (headSpec wsX8_countsEdges rm_X8_countsEdges).room s m args below meth c 2 0 0 D (wsM cy h) (adM h) Q 68 [(0, .ref (h 0)), (1, .int x1)] [.int v7, .int v4, .int v3, .ref (h 7)] s0 (j v7)) ?_ (fun j68 hj68 => ?_)
      · intro v7
        refine G.iadd E dX8_countsEdges_68 ?_
        refine G.iast (q0 := 7) E dX8_countsEdges_69 (wsM_at7 _ _ _) (fun j => wsM_set7 _ _ _ _ j) (fun s8 => ?_)
        refine G.iinc (v := x1 + 1) (lv' := [(1, .int (x1 + 1)), (0, .ref (h 0))]) E dX8_countsEdges_70 1 rfl rfl (by decide) rfl ?_
        refine G.goto (tgt := 23) E dX8_countsEdges_73 (by decide) ?_
        refine G.loc [1, 0] rfl ?_
        exact ih (x1 + 1) s8
      · refine G.jn (P := fun j => ∀ (_u : Unit), G p l e (headSpec wsX8_countsEdges rm_X8_countsEdges).room s m args below meth c 2 0 0 D (wsM cy h) (adM h) Q 67 [(0, .ref (h 0)), (1, .int x1)] [.int v4, .int v3, .ref (h 7)] s0 (j _u)) ?_ (fun j67 hj67 => ?_)
        · intro _u
          refine G.iconst (v := 0) E dX8_countsEdges_67 (by decide) ?_
          refine G.loc [0, 1] rfl ?_
          exact hj68 0
        · refine G.if_eq (tgt := 67) E dX8_countsEdges_49 (by decide) ?_ ?_
          · refine G.loc [0, 1] rfl ?_
            exact hj67 ()
          · refine G.aload_n E dX8_countsEdges_52 0 rfl rfl ?_
            refine G.getI (T := TX8) (N := 21) (C := RX8) (q0 := 0) (i := 3) E dX8_countsEdges_53 iw_X8_countsEdges_8 (wsM_at0 _ _ _) rfl (by decide) rfl (List.mem_of_getElem? (i := 4) rfl) (fun v9 => ?_)
            refine G.iload_n E dX8_countsEdges_56 1 rfl rfl ?_
            refine G.callSi (n := 2) (As := [.int v9, .int x1]) E dX8_countsEdges_57 (fun _ hv => c_X8_isIn E.wf hv) gX8_countsEdges_X8_isIn rfl rfl rfl (by decide +kernel) ⟨Nat.le_of_ble_eq_true rfl, Nat.le_of_ble_eq_true rfl⟩ rfl (Nat.le_of_ble_eq_true rfl) ⟨Nat.le_of_ble_eq_true rfl, Nat.le_of_ble_eq_true rfl⟩ (fun v10 => ?_)
            refine G.if_eq (tgt := 67) E dX8_countsEdges_60 (by decide) ?_ ?_
            · refine G.loc [0, 1] rfl ?_
              exact hj67 ()
            · refine G.iconst (v := 1) E dX8_countsEdges_63 (by decide) ?_
              refine G.goto (tgt := 68) E dX8_countsEdges_64 (by decide) ?_
              refine G.loc [0, 1] rfl ?_
              exact hj68 1
noncomputable def f_X8_countsEdges (N : Nat) (σ : Wd) : Option (Wd) :=
  fl_X8_countsEdges_2 N (fun s2 =>
    fl_X8_countsEdges_23 N (fun s11 =>
      some s11) N 0 s2) N 0 σ
set_option maxHeartbeats 4000000 in
set_option maxRecDepth 100000 in
theorem c_X8_countsEdges {l : Launch} {D : va_G} {cy : Nat → ClassId} {h : Nat → Nat} {N : Nat} {σ : Wd} {σ1 : Wd} (hW : WF (wsM cy h) (adM h)) (hr : f_X8_countsEdges N σ = some σ1) : Con l D cy (wsM cy h) (adM h) yX8_countsEdges wsX8_countsEdges rm_X8_countsEdges 0 0 [.ref (h 0)] (none) σ σ1 := by
  refine Con.of (ρ := Wd) (lv0 := [(0, .ref (h 0))]) (σ := σ) (fun _ : Wd => none) (fun r => r) (by decide) rfl rfl (Nat.le_of_ble_eq_true rfl) rfl hW hr (fun p e s m args below meth c E => ?_)
  unfold f_X8_countsEdges
  refine G.iconst (v := 0) E dX8_countsEdges_0 (by decide) ?_
  refine G.istore_n (lv' := [(1, .int 0), (0, .ref (h 0))]) E dX8_countsEdges_1 rfl (by decide) rfl ?_
  refine G.loc [1, 0] rfl ?_
  refine gl_X8_countsEdges_2 E (fun s2 => ?_) N _ _
  refine G.iconst (v := 0) E dX8_countsEdges_21 (by decide) ?_
  refine G.istore_n (lv' := [(1, .int 0), (0, .ref (h 0))]) E dX8_countsEdges_22 rfl (by decide) rfl ?_
  refine G.loc [1, 0] rfl ?_
  refine gl_X8_countsEdges_23 E (fun s11 => ?_) N _ _
  exact G.vret E dX8_countsEdges_76 rfl rfl
set_option maxHeartbeats 4000000 in
set_option maxRecDepth 100000 in
theorem iw_X8_areParted_8 : ∀ w ∈ u_ws RX8 TX8 21, w ∈ wsX8_areParted := fun _ h => List.mem_cons_of_mem _ (List.mem_append_right _ h)
abbrev rm_X8_areParted : Room := { frames := 2, cells := 0, slots := 0, locals := 42 }
noncomputable def fl_X8_areParted_33 {ρ : Type} (N : Nat) (σ : Wd) (x1 : Int32) (K : Int32 → Option ρ) : Nat → Int32 → Int32 → Option ρ
  | 0, _, _ => none
  | n + 1, x3, x4 =>
    if 7 ≤ x4 then (
      K x3)
    else (
      gI σ 0 2 fun v3 =>
      bP (f_X8_isIn N v3 x4) fun v4 =>
      jn (fun (v5 : Int32) => ((
        fl_X8_areParted_33 N σ x1 K n v5 (x4 + 1)) : Option (ρ))) fun j107 =>
      if v4 = 0 then (
        j107 x3)
      else (
        jn (fun (v6 : Int32) => ((
          jn (fun (v7 : Int32) => ((
            j107 v7) : Option (ρ))) fun j106 =>
          jn (fun (_u : Unit) => ((
            j106 0) : Option (ρ))) fun j105 =>
          if x3 = 0 then (
            j105 ())
          else (
            rI σ 6 7 x4 fun v8 =>
            rI σ 7 7 v8 fun v9 =>
            if v9 = v6 then (
              j106 1)
            else (
              j105 ()))) : Option (ρ))) fun j78 =>
        jn (fun (_u : Unit) => ((
          j78 1) : Option (ρ))) fun j77 =>
        if x1 = (-1) then (
          j77 ())
        else (
          rI σ 6 7 x4 fun v10 =>
          rI σ 6 7 x1 fun v11 =>
          if v10 = v11 then (
            j78 2)
          else (
            j77 ()))))
set_option maxHeartbeats 4000000 in
set_option maxRecDepth 100000 in
theorem gl_X8_areParted_33 {ρ : Type} {Q : ρ → State → Prop} {N : Nat} {σ : Wd} {x1 : Int32} {K : Int32 → Option ρ} (E : EV p s m args meth c cX8_areParted 6 RX8 wsX8_areParted (some .boolean) D cy (wsM cy h) (adM h)) (hK : ∀ (x3' : Int32), G p l e (headSpec wsX8_areParted rm_X8_areParted).room s m args below meth c 6 0 0 D (wsM cy h) (adM h) Q 113 [(3, .int (x3'))] [] σ (K x3')) :
  ∀ (n : Nat) (x3 : Int32) (x4 : Int32), G p l e (headSpec wsX8_areParted rm_X8_areParted).room s m args below meth c 6 0 0 D (wsM cy h) (adM h) Q 33 [(0, .ref (h 0)), (1, .int x1), (3, .int x3), (4, .int x4)] [] σ (fl_X8_areParted_33 N σ x1 K n x3 x4) := by
  intro n
  induction n with
  | zero => intros; exact G.no
  | succ n ih =>
    intro x3 x4
    rw [fl_X8_areParted_33]
    refine G.iload E dX8_areParted_33 3 rfl ?_
    refine G.bipush (v := 7) E dX8_areParted_35 (by decide) ?_
    refine G.icmp_ge (tgt := 113) E dX8_areParted_37 (by decide) ?_ ?_
    · refine G.loc [2] rfl ?_
      exact hK x3
    · refine G.aload_n E dX8_areParted_40 0 rfl rfl ?_
      refine G.getI (T := TX8) (N := 21) (C := RX8) (q0 := 0) (i := 2) E dX8_areParted_41 iw_X8_areParted_8 (wsM_at0 _ _ _) rfl (by decide) rfl (List.mem_of_getElem? (i := 2) rfl) (fun v3 => ?_)
      refine G.iload E dX8_areParted_44 3 rfl ?_
      refine G.callSi (n := 2) (As := [.int v3, .int x4]) E dX8_areParted_46 (fun _ hv => c_X8_isIn E.wf hv) gX8_areParted_X8_isIn rfl rfl rfl (by decide +kernel) ⟨Nat.le_of_ble_eq_true rfl, Nat.le_of_ble_eq_true rfl⟩ rfl (Nat.le_of_ble_eq_true rfl) ⟨Nat.le_of_ble_eq_true rfl, Nat.le_of_ble_eq_true rfl⟩ (fun v4 => ?_)
      refine G.jn (P := fun j => ∀ (v5 : Int32), G p l e (headSpec wsX8_areParted rm_X8_areParted).room s m args below meth c 6 0 0 D (wsM cy h) (adM h) Q 107 [(0, .ref (h 0)), (1, .int x1), (3, .int v5), (4, .int x4)] [] σ (j v5)) ?_ (fun j107 hj107 => ?_)
      · intro v5
        refine G.iinc (v := x4 + 1) (lv' := [(4, .int (x4 + 1)), (0, .ref (h 0)), (1, .int x1), (3, .int v5)]) E dX8_areParted_107 3 rfl rfl (by decide) rfl ?_
        refine G.goto (tgt := 33) E dX8_areParted_110 (by decide) ?_
        refine G.loc [1, 2, 3, 0] rfl ?_
        exact ih v5 (x4 + 1)
      · refine G.if_eq (tgt := 107) E dX8_areParted_49 (by decide) ?_ ?_
        · refine G.loc [0, 1, 2, 3] rfl ?_
          exact hj107 x3
        · refine G.iload_n E dX8_areParted_52 1 rfl rfl ?_
          refine G.iconst (v := (-1)) E dX8_areParted_53 (by decide) ?_
          refine G.jn (P := fun j => ∀ (v6 : Int32), G p l e (headSpec wsX8_areParted rm_X8_areParted).room s m args below meth c 6 0 0 D (wsM cy h) (adM h) Q 78 [(0, .ref (h 0)), (1, .int x1), (3, .int x3), (4, .int x4)] [.int v6] σ (j v6)) ?_ (fun j78 hj78 => ?_)
          · intro v6
            refine G.istore (lv' := [(5, .int v6), (0, .ref (h 0)), (1, .int x1), (3, .int x3), (4, .int x4)]) E dX8_areParted_78 (by decide) rfl ?_
            refine G.iload_n E dX8_areParted_80 3 rfl rfl ?_
            refine G.jn (P := fun j => ∀ (v7 : Int32), G p l e (headSpec wsX8_areParted rm_X8_areParted).room s m args below meth c 6 0 0 D (wsM cy h) (adM h) Q 106 [(0, .ref (h 0)), (1, .int x1), (4, .int x4)] [.int v7] σ (j v7)) ?_ (fun j106 hj106 => ?_)
            · intro v7
              refine G.istore_n (lv' := [(3, .int v7), (0, .ref (h 0)), (1, .int x1), (4, .int x4)]) E dX8_areParted_106 rfl (by decide) rfl ?_
              refine G.loc [1, 2, 0, 3] rfl ?_
              exact hj107 v7
            · refine G.jn (P := fun j => ∀ (_u : Unit), G p l e (headSpec wsX8_areParted rm_X8_areParted).room s m args below meth c 6 0 0 D (wsM cy h) (adM h) Q 105 [(0, .ref (h 0)), (1, .int x1), (4, .int x4)] [] σ (j _u)) ?_ (fun j105 hj105 => ?_)
              · intro _u
                refine G.iconst (v := 0) E dX8_areParted_105 (by decide) ?_
                refine G.loc [0, 1, 2] rfl ?_
                exact hj106 0
              · refine G.if_eq (tgt := 105) E dX8_areParted_81 (by decide) ?_ ?_
                · refine G.loc [1, 2, 4] rfl ?_
                  exact hj105 ()
                · refine G.aload_n E dX8_areParted_84 1 rfl rfl ?_
                  refine G.getR (T := TX8) (N := 21) (C := RX8) (q0 := 0) (i := 13) E dX8_areParted_85 iw_X8_areParted_8 (wsM_at0 _ _ _) rfl (by decide) rfl (List.mem_of_getElem? (i := 3) rfl) ?_
                  refine G.aload_n E dX8_areParted_88 1 rfl rfl ?_
                  refine G.getR (T := TX8) (N := 21) (C := RX8) (q0 := 0) (i := 12) E dX8_areParted_89 iw_X8_areParted_8 (wsM_at0 _ _ _) rfl (by decide) rfl (List.mem_of_getElem? (i := 1) rfl) ?_
                  refine G.iload E dX8_areParted_92 4 rfl ?_
                  refine G.iald (q0 := 6) E dX8_areParted_94 (wsM_at6 _ _ _) (fun v8 => ?_)
                  refine G.iald (q0 := 7) E dX8_areParted_95 (wsM_at7 _ _ _) (fun v9 => ?_)
                  refine G.iload E dX8_areParted_96 0 rfl ?_
                  refine G.icmp_ne (tgt := 105) E dX8_areParted_98 (by decide) ?_ ?_
                  · refine G.iconst (v := 1) E dX8_areParted_101 (by decide) ?_
                    refine G.goto (tgt := 106) E dX8_areParted_102 (by decide) ?_
                    refine G.loc [1, 2, 4] rfl ?_
                    exact hj106 1
                  · refine G.loc [1, 2, 4] rfl ?_
                    exact hj105 ()
          · refine G.jn (P := fun j => ∀ (_u : Unit), G p l e (headSpec wsX8_areParted rm_X8_areParted).room s m args below meth c 6 0 0 D (wsM cy h) (adM h) Q 77 [(0, .ref (h 0)), (1, .int x1), (3, .int x3), (4, .int x4)] [] σ (j _u)) ?_ (fun j77 hj77 => ?_)
            · intro _u
              refine G.iconst (v := 1) E dX8_areParted_77 (by decide) ?_
              refine G.loc [0, 1, 2, 3] rfl ?_
              exact hj78 1
            · refine G.icmp_eq (tgt := 77) E dX8_areParted_54 (by decide) ?_ ?_
              · refine G.loc [0, 1, 2, 3] rfl ?_
                exact hj77 ()
              · refine G.aload_n E dX8_areParted_57 0 rfl rfl ?_
                refine G.getR (T := TX8) (N := 21) (C := RX8) (q0 := 0) (i := 12) E dX8_areParted_58 iw_X8_areParted_8 (wsM_at0 _ _ _) rfl (by decide) rfl (List.mem_of_getElem? (i := 1) rfl) ?_
                refine G.iload E dX8_areParted_61 3 rfl ?_
                refine G.iald (q0 := 6) E dX8_areParted_63 (wsM_at6 _ _ _) (fun v10 => ?_)
                refine G.aload_n E dX8_areParted_64 0 rfl rfl ?_
                refine G.getR (T := TX8) (N := 21) (C := RX8) (q0 := 0) (i := 12) E dX8_areParted_65 iw_X8_areParted_8 (wsM_at0 _ _ _) rfl (by decide) rfl (List.mem_of_getElem? (i := 1) rfl) ?_
                refine G.iload_n E dX8_areParted_68 1 rfl rfl ?_
                refine G.iald (q0 := 6) E dX8_areParted_69 (wsM_at6 _ _ _) (fun v11 => ?_)
                refine G.icmp_ne (tgt := 77) E dX8_areParted_70 (by decide) ?_ ?_
                · refine G.iconst (v := 2) E dX8_areParted_73 (by decide) ?_
                  refine G.goto (tgt := 78) E dX8_areParted_74 (by decide) ?_
                  refine G.loc [0, 1, 2, 3] rfl ?_
                  exact hj78 2
                · refine G.loc [0, 1, 2, 3] rfl ?_
                  exact hj77 ()
noncomputable def f_X8_areParted (N : Nat) (σ : Wd) (a0 : Int32) (a1 : Int32) : Option (Int32 × Wd) :=
  bP (f_X8_countsEdges N σ) fun s1 =>
  jn (fun (v2 : Int32) => ((
    fl_X8_areParted_33 N s1 a0 (fun v12 =>
      zb v12 (some (v12, s1))) N v2 0) : Option (Int32 × Wd))) fun j29 =>
  jn (fun (_u : Unit) => ((
    j29 1) : Option (Int32 × Wd))) fun j24 =>
  if a0 = (-1) then (
    j24 ())
  else (
    rI s1 6 7 a0 fun v13 =>
    rI s1 6 7 a1 fun v14 =>
    if v13 = v14 then (
      j24 ())
    else (
      j29 0))
set_option maxHeartbeats 4000000 in
set_option maxRecDepth 100000 in
theorem c_X8_areParted {l : Launch} {D : va_G} {cy : Nat → ClassId} {h : Nat → Nat} {N : Nat} {σ : Wd} {a0 : Int32} {a1 : Int32} {r : Int32} {σ1 : Wd} (hW : WF (wsM cy h) (adM h)) (hr : f_X8_areParted N σ a0 a1 = some (r, σ1)) : Con l D cy (wsM cy h) (adM h) yX8_areParted wsX8_areParted rm_X8_areParted 0 0 [.ref (h 0), .int a0, .int a1] (some (.int r)) σ σ1 := by
  refine Con.of (ρ := Int32 × Wd) (lv0 := [(0, .ref (h 0)), (1, .int a0), (2, .int a1)]) (σ := σ) (fun r : Int32 × Wd => some (.int r.1)) (fun r => r.2) (by decide) rfl rfl (Nat.le_of_ble_eq_true rfl) rfl hW hr (fun p e s m args below meth c E => ?_)
  unfold f_X8_areParted
  refine G.aload_n E dX8_areParted_0 0 rfl rfl ?_
  refine G.callVv (n := 0) (T := TX8) (N := 21) (C := RX8) (a := h 0) (q0 := 0) (As := []) E dX8_areParted_1 (fun _ hv => c_X8_countsEdges E.wf hv) gX8_areParted_X8_countsEdges rfl rfl rfl (by decide +kernel) ⟨Nat.le_of_ble_eq_true rfl, Nat.le_of_ble_eq_true rfl⟩ (wsM_at0 _ _ _) rfl rfl (Nat.le_of_ble_eq_true rfl) ⟨Nat.le_of_ble_eq_true rfl, Nat.le_of_ble_eq_true rfl⟩ (fun s1 => ?_)
  refine G.iload_n E dX8_areParted_4 1 rfl rfl ?_
  refine G.iconst (v := (-1)) E dX8_areParted_5 (by decide) ?_
  refine G.jn (P := fun j => ∀ (v2 : Int32), G p l e (headSpec wsX8_areParted rm_X8_areParted).room s m args below meth c 6 0 0 D (wsM cy h) (adM h) (QM D (wsM cy h) (adM h) below args s 0 0 (fun r : Int32 × Wd => some (.int r.1)) (fun r => r.2)) 29 [(0, .ref (h 0)), (1, .int a0)] [.int v2] s1 (j v2)) ?_ (fun j29 hj29 => ?_)
  · intro v2
    refine G.istore_n (lv' := [(3, .int v2), (0, .ref (h 0)), (1, .int a0)]) E dX8_areParted_29 rfl (by decide) rfl ?_
    refine G.iconst (v := 0) E dX8_areParted_30 (by decide) ?_
    refine G.istore (lv' := [(4, .int 0), (3, .int v2), (0, .ref (h 0)), (1, .int a0)]) E dX8_areParted_31 (by decide) rfl ?_
    refine G.loc [2, 3, 1, 0] rfl ?_
    refine gl_X8_areParted_33 E (fun v12 => ?_) N _ _
    refine G.iload_n E dX8_areParted_113 0 rfl rfl ?_
    exact G.zret E dX8_areParted_114 rfl rfl
  · refine G.jn (P := fun j => ∀ (_u : Unit), G p l e (headSpec wsX8_areParted rm_X8_areParted).room s m args below meth c 6 0 0 D (wsM cy h) (adM h) (QM D (wsM cy h) (adM h) below args s 0 0 (fun r : Int32 × Wd => some (.int r.1)) (fun r => r.2)) 24 [(0, .ref (h 0)), (1, .int a0)] [] s1 (j _u)) ?_ (fun j24 hj24 => ?_)
    · intro _u
      refine G.iconst (v := 1) E dX8_areParted_24 (by decide) ?_
      refine G.goto (tgt := 29) E dX8_areParted_25 (by decide) ?_
      refine G.loc [0, 1] rfl ?_
      exact hj29 1
    · refine G.icmp_eq (tgt := 24) E dX8_areParted_6 (by decide) ?_ ?_
      · refine G.loc [0, 1] rfl ?_
        exact hj24 ()
      · refine G.aload_n E dX8_areParted_9 0 rfl rfl ?_
        refine G.getR (T := TX8) (N := 21) (C := RX8) (q0 := 0) (i := 12) E dX8_areParted_10 iw_X8_areParted_8 (wsM_at0 _ _ _) rfl (by decide) rfl (List.mem_of_getElem? (i := 1) rfl) ?_
        refine G.iload_n E dX8_areParted_13 1 rfl rfl ?_
        refine G.iald (q0 := 6) E dX8_areParted_14 (wsM_at6 _ _ _) (fun v13 => ?_)
        refine G.aload_n E dX8_areParted_15 0 rfl rfl ?_
        refine G.getR (T := TX8) (N := 21) (C := RX8) (q0 := 0) (i := 12) E dX8_areParted_16 iw_X8_areParted_8 (wsM_at0 _ _ _) rfl (by decide) rfl (List.mem_of_getElem? (i := 1) rfl) ?_
        refine G.iload_n E dX8_areParted_19 2 rfl rfl ?_
        refine G.iald (q0 := 6) E dX8_areParted_20 (wsM_at6 _ _ _) (fun v14 => ?_)
        refine G.icmp_ne (tgt := 28) E dX8_areParted_21 (by decide) ?_ ?_
        · refine G.loc [0, 1] rfl ?_
          exact hj24 ()
        · refine G.iconst (v := 0) E dX8_areParted_28 (by decide) ?_
          refine G.loc [0, 1] rfl ?_
          exact hj29 0
set_option maxHeartbeats 4000000 in
set_option maxRecDepth 100000 in
theorem iw_X8_isOf_8 : ∀ w ∈ u_ws RX8 TX8 21, w ∈ wsX8_isOf := fun _ h => List.mem_cons_of_mem _ (List.mem_append_right _ h)
abbrev rm_X8_isOf : Room := { frames := 3, cells := 0, slots := 0, locals := 67 }
noncomputable def f_X8_isOf (N : Nat) (σ : Wd) (a0 : Int32) (a1 : Int32) (a2 : Int32) (a3 : Int32) (a4 : Int32) : Option (Int32 × Wd) :=
  if a1 = 0 then (
    if a0 = 1 then (
      some (1, σ))
    else (
      some (0, σ)))
  else if a1 = 1 then (
    bS (f_X8_areParted N σ (-1) (-1)) fun v1 s2 =>
    zb v1 (some (v1, s2)))
  else if a1 = 2 then (
    bS (f_X8_areParted N σ a2 a3) fun v3 s4 =>
    zb v3 (some (v3, s4)))
  else if a1 = 3 then (
    bS (f_X8_areParted N σ (-1) (-1)) fun v5 s6 =>
    if v5 = 0 then (
      some (0, s6))
    else (
      rI s6 6 7 a2 fun v7 =>
      rI s6 6 7 a3 fun v8 =>
      if v7 = v8 then (
        some (1, s6))
      else (
        some (0, s6))))
  else if a1 = 4 then (
    if a0 = 2 then (
      rI σ 6 7 a2 fun v9 =>
      rI σ 6 7 a3 fun v10 =>
      if v9 = v10 then (
        some (0, σ))
      else (
        some (1, σ)))
    else (
      some (0, σ)))
  else (
    if a0 = 2 then (
      rI σ 6 7 a2 fun v11 =>
      rI σ 6 7 a3 fun v12 =>
      if v11 = v12 then (
        some (0, σ))
      else (
        rI σ 6 7 a4 fun v13 =>
        rI σ 6 7 a2 fun v14 =>
        if v13 = v14 then (
          some (1, σ))
        else (
          some (0, σ))))
    else (
      some (0, σ)))
set_option maxHeartbeats 4000000 in
set_option maxRecDepth 100000 in
theorem c_X8_isOf {l : Launch} {D : va_G} {cy : Nat → ClassId} {h : Nat → Nat} {N : Nat} {σ : Wd} {a0 : Int32} {a1 : Int32} {a2 : Int32} {a3 : Int32} {a4 : Int32} {r : Int32} {σ1 : Wd} (hW : WF (wsM cy h) (adM h)) (hr : f_X8_isOf N σ a0 a1 a2 a3 a4 = some (r, σ1)) : Con l D cy (wsM cy h) (adM h) yX8_isOf wsX8_isOf rm_X8_isOf 0 0 [.ref (h 0), .int a0, .int a1, .int a2, .int a3, .int a4] (some (.int r)) σ σ1 := by
  refine Con.of (ρ := Int32 × Wd) (lv0 := [(0, .ref (h 0)), (1, .int a0), (2, .int a1), (3, .int a2), (4, .int a3), (5, .int a4)]) (σ := σ) (fun r : Int32 × Wd => some (.int r.1)) (fun r => r.2) (by decide) rfl rfl (Nat.le_of_ble_eq_true rfl) rfl hW hr (fun p e s m args below meth c E => ?_)
  unfold f_X8_isOf
  refine G.iload_n E dX8_isOf_0 2 rfl rfl ?_
  refine G.swIn (c0 := 0) (tgt := 36) E dX8_isOf_1 (by decide) (by decide) rfl (by decide) ?_ (fun n0 => ?_)
  · refine G.iload_n E dX8_isOf_36 1 rfl rfl ?_
    refine G.iconst (v := 1) E dX8_isOf_37 (by decide) ?_
    refine G.icmp_ne (tgt := 45) E dX8_isOf_38 (by decide) ?_ ?_
    · refine G.iconst (v := 1) E dX8_isOf_41 (by decide) ?_
      refine G.goto (tgt := 46) E dX8_isOf_42 (by decide) ?_
      exact G.zretc E dX8_isOf_46 rfl rfl rfl
    · refine G.iconst (v := 0) E dX8_isOf_45 (by decide) ?_
      exact G.zretc E dX8_isOf_46 rfl rfl rfl
  refine G.swIn (c0 := 1) (tgt := 47) E dX8_isOf_1 (by decide) (by decide) rfl (by decide) ?_ (fun n1 => ?_)
  · refine G.aload_n E dX8_isOf_47 0 rfl rfl ?_
    refine G.iconst (v := (-1)) E dX8_isOf_48 (by decide) ?_
    refine G.iconst (v := (-1)) E dX8_isOf_49 (by decide) ?_
    refine G.callVis (n := 2) (T := TX8) (N := 21) (C := RX8) (a := h 0) (q0 := 0) (As := [.int (-1), .int (-1)]) E dX8_isOf_50 (fun _ _ hv => c_X8_areParted E.wf hv) gX8_isOf_X8_areParted rfl rfl rfl (by decide +kernel) ⟨Nat.le_of_ble_eq_true rfl, Nat.le_of_ble_eq_true rfl⟩ (wsM_at0 _ _ _) rfl rfl (Nat.le_of_ble_eq_true rfl) ⟨Nat.le_of_ble_eq_true rfl, Nat.le_of_ble_eq_true rfl⟩ (fun v1 s2 => ?_)
    exact G.zret E dX8_isOf_53 rfl rfl
  refine G.swIn (c0 := 2) (tgt := 54) E dX8_isOf_1 (by decide) (by decide) rfl (by decide) ?_ (fun n2 => ?_)
  · refine G.aload_n E dX8_isOf_54 0 rfl rfl ?_
    refine G.iload_n E dX8_isOf_55 3 rfl rfl ?_
    refine G.iload E dX8_isOf_56 4 rfl ?_
    refine G.callVis (n := 2) (T := TX8) (N := 21) (C := RX8) (a := h 0) (q0 := 0) (As := [.int a2, .int a3]) E dX8_isOf_58 (fun _ _ hv => c_X8_areParted E.wf hv) gX8_isOf_X8_areParted rfl rfl rfl (by decide +kernel) ⟨Nat.le_of_ble_eq_true rfl, Nat.le_of_ble_eq_true rfl⟩ (wsM_at0 _ _ _) rfl rfl (Nat.le_of_ble_eq_true rfl) ⟨Nat.le_of_ble_eq_true rfl, Nat.le_of_ble_eq_true rfl⟩ (fun v3 s4 => ?_)
    exact G.zret E dX8_isOf_61 rfl rfl
  refine G.swIn (c0 := 3) (tgt := 62) E dX8_isOf_1 (by decide) (by decide) rfl (by decide) ?_ (fun n3 => ?_)
  · refine G.aload_n E dX8_isOf_62 0 rfl rfl ?_
    refine G.iconst (v := (-1)) E dX8_isOf_63 (by decide) ?_
    refine G.iconst (v := (-1)) E dX8_isOf_64 (by decide) ?_
    refine G.callVis (n := 2) (T := TX8) (N := 21) (C := RX8) (a := h 0) (q0 := 0) (As := [.int (-1), .int (-1)]) E dX8_isOf_65 (fun _ _ hv => c_X8_areParted E.wf hv) gX8_isOf_X8_areParted rfl rfl rfl (by decide +kernel) ⟨Nat.le_of_ble_eq_true rfl, Nat.le_of_ble_eq_true rfl⟩ (wsM_at0 _ _ _) rfl rfl (Nat.le_of_ble_eq_true rfl) ⟨Nat.le_of_ble_eq_true rfl, Nat.le_of_ble_eq_true rfl⟩ (fun v5 s6 => ?_)
    refine G.if_eq (tgt := 91) E dX8_isOf_68 (by decide) ?_ ?_
    · refine G.iconst (v := 0) E dX8_isOf_91 (by decide) ?_
      exact G.zretc E dX8_isOf_92 rfl rfl rfl
    · refine G.aload_n E dX8_isOf_71 0 rfl rfl ?_
      refine G.getR (T := TX8) (N := 21) (C := RX8) (q0 := 0) (i := 12) E dX8_isOf_72 iw_X8_isOf_8 (wsM_at0 _ _ _) rfl (by decide) rfl (List.mem_of_getElem? (i := 1) rfl) ?_
      refine G.iload_n E dX8_isOf_75 3 rfl rfl ?_
      refine G.iald (q0 := 6) E dX8_isOf_76 (wsM_at6 _ _ _) (fun v7 => ?_)
      refine G.aload_n E dX8_isOf_77 0 rfl rfl ?_
      refine G.getR (T := TX8) (N := 21) (C := RX8) (q0 := 0) (i := 12) E dX8_isOf_78 iw_X8_isOf_8 (wsM_at0 _ _ _) rfl (by decide) rfl (List.mem_of_getElem? (i := 1) rfl) ?_
      refine G.iload E dX8_isOf_81 4 rfl ?_
      refine G.iald (q0 := 6) E dX8_isOf_83 (wsM_at6 _ _ _) (fun v8 => ?_)
      refine G.icmp_ne (tgt := 91) E dX8_isOf_84 (by decide) ?_ ?_
      · refine G.iconst (v := 1) E dX8_isOf_87 (by decide) ?_
        refine G.goto (tgt := 92) E dX8_isOf_88 (by decide) ?_
        exact G.zretc E dX8_isOf_92 rfl rfl rfl
      · refine G.iconst (v := 0) E dX8_isOf_91 (by decide) ?_
        exact G.zretc E dX8_isOf_92 rfl rfl rfl
  refine G.swIn (c0 := 4) (tgt := 93) E dX8_isOf_1 (by decide) (by decide) rfl (by decide) ?_ (fun n4 => ?_)
  · refine G.iload_n E dX8_isOf_93 1 rfl rfl ?_
    refine G.iconst (v := 2) E dX8_isOf_94 (by decide) ?_
    refine G.icmp_ne (tgt := 118) E dX8_isOf_95 (by decide) ?_ ?_
    · refine G.aload_n E dX8_isOf_98 0 rfl rfl ?_
      refine G.getR (T := TX8) (N := 21) (C := RX8) (q0 := 0) (i := 12) E dX8_isOf_99 iw_X8_isOf_8 (wsM_at0 _ _ _) rfl (by decide) rfl (List.mem_of_getElem? (i := 1) rfl) ?_
      refine G.iload_n E dX8_isOf_102 3 rfl rfl ?_
      refine G.iald (q0 := 6) E dX8_isOf_103 (wsM_at6 _ _ _) (fun v9 => ?_)
      refine G.aload_n E dX8_isOf_104 0 rfl rfl ?_
      refine G.getR (T := TX8) (N := 21) (C := RX8) (q0 := 0) (i := 12) E dX8_isOf_105 iw_X8_isOf_8 (wsM_at0 _ _ _) rfl (by decide) rfl (List.mem_of_getElem? (i := 1) rfl) ?_
      refine G.iload E dX8_isOf_108 4 rfl ?_
      refine G.iald (q0 := 6) E dX8_isOf_110 (wsM_at6 _ _ _) (fun v10 => ?_)
      refine G.icmp_eq (tgt := 118) E dX8_isOf_111 (by decide) ?_ ?_
      · refine G.iconst (v := 0) E dX8_isOf_118 (by decide) ?_
        exact G.zretc E dX8_isOf_119 rfl rfl rfl
      · refine G.iconst (v := 1) E dX8_isOf_114 (by decide) ?_
        refine G.goto (tgt := 119) E dX8_isOf_115 (by decide) ?_
        exact G.zretc E dX8_isOf_119 rfl rfl rfl
    · refine G.iconst (v := 0) E dX8_isOf_118 (by decide) ?_
      exact G.zretc E dX8_isOf_119 rfl rfl rfl
  refine G.swOut (tgt := 120) E dX8_isOf_1 (by have := lv_neT (a := 0) n0 (by decide); have := lv_neT (a := 1) n1 (by decide); have := lv_neT (a := 2) n2 (by decide); have := lv_neT (a := 3) n3 (by decide); have := lv_neT (a := 4) n4 (by decide); omega) (by decide) ?_
  refine G.iload_n E dX8_isOf_120 1 rfl rfl ?_
  refine G.iconst (v := 2) E dX8_isOf_121 (by decide) ?_
  refine G.icmp_ne (tgt := 161) E dX8_isOf_122 (by decide) ?_ ?_
  · refine G.aload_n E dX8_isOf_125 0 rfl rfl ?_
    refine G.getR (T := TX8) (N := 21) (C := RX8) (q0 := 0) (i := 12) E dX8_isOf_126 iw_X8_isOf_8 (wsM_at0 _ _ _) rfl (by decide) rfl (List.mem_of_getElem? (i := 1) rfl) ?_
    refine G.iload_n E dX8_isOf_129 3 rfl rfl ?_
    refine G.iald (q0 := 6) E dX8_isOf_130 (wsM_at6 _ _ _) (fun v11 => ?_)
    refine G.aload_n E dX8_isOf_131 0 rfl rfl ?_
    refine G.getR (T := TX8) (N := 21) (C := RX8) (q0 := 0) (i := 12) E dX8_isOf_132 iw_X8_isOf_8 (wsM_at0 _ _ _) rfl (by decide) rfl (List.mem_of_getElem? (i := 1) rfl) ?_
    refine G.iload E dX8_isOf_135 4 rfl ?_
    refine G.iald (q0 := 6) E dX8_isOf_137 (wsM_at6 _ _ _) (fun v12 => ?_)
    refine G.icmp_eq (tgt := 161) E dX8_isOf_138 (by decide) ?_ ?_
    · refine G.iconst (v := 0) E dX8_isOf_161 (by decide) ?_
      exact G.zretc E dX8_isOf_162 rfl rfl rfl
    · refine G.aload_n E dX8_isOf_141 0 rfl rfl ?_
      refine G.getR (T := TX8) (N := 21) (C := RX8) (q0 := 0) (i := 12) E dX8_isOf_142 iw_X8_isOf_8 (wsM_at0 _ _ _) rfl (by decide) rfl (List.mem_of_getElem? (i := 1) rfl) ?_
      refine G.iload E dX8_isOf_145 5 rfl ?_
      refine G.iald (q0 := 6) E dX8_isOf_147 (wsM_at6 _ _ _) (fun v13 => ?_)
      refine G.aload_n E dX8_isOf_148 0 rfl rfl ?_
      refine G.getR (T := TX8) (N := 21) (C := RX8) (q0 := 0) (i := 12) E dX8_isOf_149 iw_X8_isOf_8 (wsM_at0 _ _ _) rfl (by decide) rfl (List.mem_of_getElem? (i := 1) rfl) ?_
      refine G.iload_n E dX8_isOf_152 3 rfl rfl ?_
      refine G.iald (q0 := 6) E dX8_isOf_153 (wsM_at6 _ _ _) (fun v14 => ?_)
      refine G.icmp_ne (tgt := 161) E dX8_isOf_154 (by decide) ?_ ?_
      · refine G.iconst (v := 1) E dX8_isOf_157 (by decide) ?_
        refine G.goto (tgt := 162) E dX8_isOf_158 (by decide) ?_
        exact G.zretc E dX8_isOf_162 rfl rfl rfl
      · refine G.iconst (v := 0) E dX8_isOf_161 (by decide) ?_
        exact G.zretc E dX8_isOf_162 rfl rfl rfl
  · refine G.iconst (v := 0) E dX8_isOf_161 (by decide) ?_
    exact G.zretc E dX8_isOf_162 rfl rfl rfl
end TR
