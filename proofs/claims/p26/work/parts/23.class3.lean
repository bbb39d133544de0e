section TR
variable {p : Program} {l : Launch} {e : Env} {s : State} {m : MethodId} {args : Array Value} {below : List Frame} {meth : Method} {c : Code} {D : va_G} {cy : Nat → ClassId} {h : Nat → Nat}

abbrev rm_X4_isAt : Room := { frames := 1, cells := 0, slots := 0, locals := 21 }
noncomputable def f_X4_isAt (N : Nat) (σ : Wd) (a0 : Int32) (a1 : Int32) : Option (Int32) :=
  bP (f_X4_firstOf N σ a0) fun v1 =>
  if v1 = a1 then (
    some 1)
  else (
    bP (f_X4_secondOf N σ a0) fun v2 =>
    if v2 = a1 then (
      some 1)
    else (
      some 0))
set_option maxHeartbeats 4000000 in
set_option maxRecDepth 100000 in
theorem c_X4_isAt {l : Launch} {D : va_G} {cy : Nat → ClassId} {h : Nat → Nat} {N : Nat} {σ : Wd} {a0 : Int32} {a1 : Int32} {r : Int32} (hW : WF (wsC cy h) (adC h)) (hr : f_X4_isAt N σ a0 a1 = some r) : Con l D cy (wsC cy h) (adC h) yX4_isAt wsX4_isAt rm_X4_isAt 0 0 [.ref (h 1), .int a0, .int a1] (some (.int r)) σ σ := by
  refine Con.of (ρ := Int32) (lv0 := [(0, .ref (h 1)), (1, .int a0), (2, .int a1)]) (σ := σ) (fun r : Int32 => some (.int r)) (fun _ => σ) (by decide) rfl rfl (Nat.le_of_ble_eq_true rfl) rfl hW hr (fun p e s m args below meth c E => ?_)
  unfold f_X4_isAt
  refine G.aload_n E dX4_isAt_0 0 rfl rfl ?_
  refine G.iload_n E dX4_isAt_1 1 rfl rfl ?_
  refine G.callVi (n := 1) (T := TX4) (N := 8) (C := RX4) (a := h 1) (q0 := 1) (As := [.int a0]) E dX4_isAt_2 (fun _ hv => c_X4_firstOf E.wf hv) gX4_isAt_X4_firstOf rfl rfl rfl (by decide +kernel) ⟨Nat.le_of_ble_eq_true rfl, Nat.le_of_ble_eq_true rfl⟩ (wsC_at1 _ _ _) rfl rfl (Nat.le_of_ble_eq_true rfl) ⟨Nat.le_of_ble_eq_true rfl, Nat.le_of_ble_eq_true rfl⟩ (fun v1 => ?_)
  refine G.iload_n E dX4_isAt_5 2 rfl rfl ?_
  refine G.icmp_eq (tgt := 18) E dX4_isAt_6 (by decide) ?_ ?_
  · refine G.iconst (v := 1) E dX4_isAt_18 (by decide) ?_
    refine G.goto (tgt := 23) E dX4_isAt_19 (by decide) ?_
    exact G.zretc E dX4_isAt_23 rfl rfl rfl
  · refine G.aload_n E dX4_isAt_9 0 rfl rfl ?_
    refine G.iload_n E dX4_isAt_10 1 rfl rfl ?_
    refine G.callVi (n := 1) (T := TX4) (N := 8) (C := RX4) (a := h 1) (q0 := 1) (As := [.int a0]) E dX4_isAt_11 (fun _ hv => c_X4_secondOf E.wf hv) gX4_isAt_X4_secondOf rfl rfl rfl (by decide +kernel) ⟨Nat.le_of_ble_eq_true rfl, Nat.le_of_ble_eq_true rfl⟩ (wsC_at1 _ _ _) rfl rfl (Nat.le_of_ble_eq_true rfl) ⟨Nat.le_of_ble_eq_true rfl, Nat.le_of_ble_eq_true rfl⟩ (fun v2 => ?_)
    refine G.iload_n E dX4_isAt_14 2 rfl rfl ?_
    refine G.icmp_ne (tgt := 22) E dX4_isAt_15 (by decide) ?_ ?_
    · refine G.iconst (v := 1) E dX4_isAt_18 (by decide) ?_
      refine G.goto (tgt := 23) E dX4_isAt_19 (by decide) ?_
      exact G.zretc E dX4_isAt_23 rfl rfl rfl
    · refine G.iconst (v := 0) E dX4_isAt_22 (by decide) ?_
      exact G.zretc E dX4_isAt_23 rfl rfl rfl
set_option maxHeartbeats 4000000 in
set_option maxRecDepth 100000 in
theorem iw_X3_secondOfTriangle_3 : ∀ w ∈ u_ws RX3 TX3 10, w ∈ wsX3_secondOfTriangle := fun _ h => List.mem_cons_of_mem _ (List.mem_append_left _ (List.mem_append_right _ h))
abbrev rm_X3_secondOfTriangle : Room := { frames := 3, cells := 0, slots := 0, locals := 67 }
noncomputable def fl_X3_secondOfTriangle_21 (N : Nat) (σ : Wd) (x2 : Int32) (x3 : Int32) (K : Unit → Option (Int32)) : Nat → Int32 → Option (Int32)
  | 0, _ => none
  | n + 1, x4 =>
    if 20 ≤ x4 then (
      K ())
    else (
      jn (fun (_u : Unit) => ((
        fl_X3_secondOfTriangle_21 N σ x2 x3 K n (x4 + 1)) : Option (Int32))) fun j100 =>
      if x2 = x3 then (
        j100 ())
      else (
        bP (f_X4_hasWire N σ x4) fun v3 =>
        if v3 = 0 then (
          j100 ())
        else (
          bP (f_X4_isAt N σ x4 x2) fun v4 =>
          if v4 = 0 then (
            j100 ())
          else (
            bP (f_X4_farEndOf N σ x4 x2) fun v5 =>
            if v5 = x2 then (
              j100 ())
            else (
              if v5 = x3 then (
                j100 ())
              else (
                bP (f_X4_lowestBetween N σ x3 v5 (-1)) fun v6 =>
                if v6 = (-1) then (
                  j100 ())
                else (
                  some x4)))))))
set_option maxHeartbeats 4000000 in
set_option maxRecDepth 100000 in
theorem gl_X3_secondOfTriangle_21 {N : Nat} {σ : Wd} {x2 : Int32} {x3 : Int32} {K : Unit → Option (Int32)} (E : EV p s m args meth c cX3_secondOfTriangle 6 RX3 wsX3_secondOfTriangle (some .int) D cy (wsC cy h) (adC h)) (hK : ∀ (u : Unit), G p l e (headSpec wsX3_secondOfTriangle rm_X3_secondOfTriangle).room s m args below meth c 6 0 0 D (wsC cy h) (adC h) (QM D (wsC cy h) (adC h) below args s 0 0 (fun r : Int32 => some (.int r)) (fun _ => σ)) 106 [] [] σ (K u)) :
  ∀ (n : Nat) (x4 : Int32), G p l e (headSpec wsX3_secondOfTriangle rm_X3_secondOfTriangle).room s m args below meth c 6 0 0 D (wsC cy h) (adC h) (QM D (wsC cy h) (adC h) below args s 0 0 (fun r : Int32 => some (.int r)) (fun _ => σ)) 21 [(0, .ref (h 28)), (2, .int x2), (3, .int x3), (4, .int x4)] [] σ (fl_X3_secondOfTriangle_21 N σ x2 x3 K n x4) := by
  intro n
  induction n with
  | zero => intros; exact G.no
  | succ n ih =>
    intro x4
    rw [fl_X3_secondOfTriangle_21]
    refine G.iload E dX3_secondOfTriangle_21 3 rfl ?_
    refine G.bipush (v := 20) E dX3_secondOfTriangle_23 (by decide) ?_
    refine G.icmp_ge (tgt := 106) E dX3_secondOfTriangle_25 (by decide) ?_ ?_
    · refine G.loc [] rfl ?_
      exact hK ()
    · refine G.iload_n E dX3_secondOfTriangle_28 1 rfl rfl ?_
      refine G.iload_n E dX3_secondOfTriangle_29 2 rfl rfl ?_
      refine G.jn (P := fun j => ∀ (_u : Unit), G p l e (headSpec wsX3_secondOfTriangle rm_X3_secondOfTriangle).room s m args below meth c 6 0 0 D (wsC cy h) (adC h) (QM D (wsC cy h) (adC h) below args s 0 0 (fun r : Int32 => some (.int r)) (fun _ => σ)) 100 [(0, .ref (h 28)), (2, .int x2), (3, .int x3), (4, .int x4)] [] σ (j _u)) ?_ (fun j100 hj100 => ?_)
      · intro _u
        refine G.iinc (v := x4 + 1) (lv' := [(4, .int (x4 + 1)), (0, .ref (h 28)), (2, .int x2), (3, .int x3)]) E dX3_secondOfTriangle_100 3 rfl rfl (by decide) rfl ?_
        refine G.goto (tgt := 21) E dX3_secondOfTriangle_103 (by decide) ?_
        refine G.loc [1, 2, 3, 0] rfl ?_
        exact ih (x4 + 1)
      · refine G.icmp_eq (tgt := 100) E dX3_secondOfTriangle_30 (by decide) ?_ ?_
        · refine G.loc [0, 1, 2, 3] rfl ?_
          exact hj100 ()
        · refine G.aload_n E dX3_secondOfTriangle_33 0 rfl rfl ?_
          refine G.getR (T := TX3) (N := 10) (C := RX3) (q0 := 28) (i := 0) E dX3_secondOfTriangle_34 iw_X3_secondOfTriangle_3 (wsC_at28 _ _ _) rfl (by decide) rfl (List.mem_of_getElem? (i := 1) rfl) ?_
          refine G.iload E dX3_secondOfTriangle_37 3 rfl ?_
          refine G.callVi (n := 1) (T := TX4) (N := 8) (C := RX4) (a := h 1) (q0 := 1) (As := [.int x4]) E dX3_secondOfTriangle_39 (fun _ hv => c_X4_hasWire E.wf hv) gX3_secondOfTriangle_X4_hasWire rfl rfl rfl (by decide +kernel) ⟨Nat.le_of_ble_eq_true rfl, Nat.le_of_ble_eq_true rfl⟩ (wsC_at1 _ _ _) rfl rfl (Nat.le_of_ble_eq_true rfl) ⟨Nat.le_of_ble_eq_true rfl, Nat.le_of_ble_eq_true rfl⟩ (fun v3 => ?_)
          refine G.if_eq (tgt := 100) E dX3_secondOfTriangle_42 (by decide) ?_ ?_
          · refine G.loc [0, 1, 2, 3] rfl ?_
            exact hj100 ()
          · refine G.aload_n E dX3_secondOfTriangle_45 0 rfl rfl ?_
            refine G.getR (T := TX3) (N := 10) (C := RX3) (q0 := 28) (i := 0) E dX3_secondOfTriangle_46 iw_X3_secondOfTriangle_3 (wsC_at28 _ _ _) rfl (by decide) rfl (List.mem_of_getElem? (i := 1) rfl) ?_
            refine G.iload E dX3_secondOfTriangle_49 3 rfl ?_
            refine G.iload_n E dX3_secondOfTriangle_51 1 rfl rfl ?_
            refine G.callVi (n := 2) (T := TX4) (N := 8) (C := RX4) (a := h 1) (q0 := 1) (As := [.int x4, .int x2]) E dX3_secondOfTriangle_52 (fun _ hv => c_X4_isAt E.wf hv) gX3_secondOfTriangle_X4_isAt rfl rfl rfl (by decide +kernel) ⟨Nat.le_of_ble_eq_true rfl, Nat.le_of_ble_eq_true rfl⟩ (wsC_at1 _ _ _) rfl rfl (Nat.le_of_ble_eq_true rfl) ⟨Nat.le_of_ble_eq_true rfl, Nat.le_of_ble_eq_true rfl⟩ (fun v4 => ?_)
            refine G.if_eq (tgt := 100) E dX3_secondOfTriangle_55 (by decide) ?_ ?_
            · refine G.loc [0, 1, 2, 3] rfl ?_
              exact hj100 ()
            · refine G.aload_n E dX3_secondOfTriangle_58 0 rfl rfl ?_
              refine G.getR (T := TX3) (N := 10) (C := RX3) (q0 := 28) (i := 0) E dX3_secondOfTriangle_59 iw_X3_secondOfTriangle_3 (wsC_at28 _ _ _) rfl (by decide) rfl (List.mem_of_getElem? (i := 1) rfl) ?_
              refine G.iload E dX3_secondOfTriangle_62 3 rfl ?_
              refine G.iload_n E dX3_secondOfTriangle_64 1 rfl rfl ?_
              refine G.callVi (n := 2) (T := TX4) (N := 8) (C := RX4) (a := h 1) (q0 := 1) (As := [.int x4, .int x2]) E dX3_secondOfTriangle_65 (fun _ hv => c_X4_farEndOf E.wf hv) gX3_secondOfTriangle_X4_farEndOf rfl rfl rfl (by decide +kernel) ⟨Nat.le_of_ble_eq_true rfl, Nat.le_of_ble_eq_true rfl⟩ (wsC_at1 _ _ _) rfl rfl (Nat.le_of_ble_eq_true rfl) ⟨Nat.le_of_ble_eq_true rfl, Nat.le_of_ble_eq_true rfl⟩ (fun v5 => ?_)
              refine G.istore (lv' := [(5, .int v5), (0, .ref (h 28)), (2, .int x2), (3, .int x3), (4, .int x4)]) E dX3_secondOfTriangle_68 (by decide) rfl ?_
              refine G.iload E dX3_secondOfTriangle_70 0 rfl ?_
              refine G.iload_n E dX3_secondOfTriangle_72 2 rfl rfl ?_
              refine G.icmp_eq (tgt := 100) E dX3_secondOfTriangle_73 (by decide) ?_ ?_
              · refine G.loc [1, 2, 3, 4] rfl ?_
                exact hj100 ()
              · refine G.iload E dX3_secondOfTriangle_76 0 rfl ?_
                refine G.iload_n E dX3_secondOfTriangle_78 3 rfl rfl ?_
                refine G.icmp_eq (tgt := 100) E dX3_secondOfTriangle_79 (by decide) ?_ ?_
                · refine G.loc [1, 2, 3, 4] rfl ?_
                  exact hj100 ()
                · refine G.aload_n E dX3_secondOfTriangle_82 1 rfl rfl ?_
                  refine G.getR (T := TX3) (N := 10) (C := RX3) (q0 := 28) (i := 0) E dX3_secondOfTriangle_83 iw_X3_secondOfTriangle_3 (wsC_at28 _ _ _) rfl (by decide) rfl (List.mem_of_getElem? (i := 1) rfl) ?_
                  refine G.iload_n E dX3_secondOfTriangle_86 3 rfl rfl ?_
                  refine G.iload E dX3_secondOfTriangle_87 0 rfl ?_
                  refine G.iconst (v := (-1)) E dX3_secondOfTriangle_89 (by decide) ?_
                  refine G.callVi (n := 3) (T := TX4) (N := 8) (C := RX4) (a := h 1) (q0 := 1) (As := [.int x3, .int v5, .int (-1)]) E dX3_secondOfTriangle_90 (fun _ hv => c_X4_lowestBetween E.wf hv) gX3_secondOfTriangle_X4_lowestBetween rfl rfl rfl (by decide +kernel) ⟨Nat.le_of_ble_eq_true rfl, Nat.le_of_ble_eq_true rfl⟩ (wsC_at1 _ _ _) rfl rfl (Nat.le_of_ble_eq_true rfl) ⟨Nat.le_of_ble_eq_true rfl, Nat.le_of_ble_eq_true rfl⟩ (fun v6 => ?_)
                  refine G.iconst (v := (-1)) E dX3_secondOfTriangle_93 (by decide) ?_
                  refine G.icmp_eq (tgt := 100) E dX3_secondOfTriangle_94 (by decide) ?_ ?_
                  · refine G.loc [1, 2, 3, 4] rfl ?_
                    exact hj100 ()
                  · refine G.iload E dX3_secondOfTriangle_97 4 rfl ?_
                    exact G.iret E dX3_secondOfTriangle_99 rfl rfl
noncomputable def f_X3_secondOfTriangle (N : Nat) (σ : Wd) (a0 : Int32) : Option (Int32) :=
  bP (f_X4_firstOf N σ a0) fun v1 =>
  bP (f_X4_secondOf N σ a0) fun v2 =>
  fl_X3_secondOfTriangle_21 N σ v1 v2 (fun (_ : Unit) =>
    some (-1)) N 0
set_option maxHeartbeats 4000000 in
set_option maxRecDepth 100000 in
theorem c_X3_secondOfTriangle {l : Launch} {D : va_G} {cy : Nat → ClassId} {h : Nat → Nat} {N : Nat} {σ : Wd} {a0 : Int32} {r : Int32} (hW : WF (wsC cy h) (adC h)) (hr : f_X3_secondOfTriangle N σ a0 = some r) : Con l D cy (wsC cy h) (adC h) yX3_secondOfTriangle wsX3_secondOfTriangle rm_X3_secondOfTriangle 0 0 [.ref (h 28), .int a0] (some (.int r)) σ σ := by
  refine Con.of (ρ := Int32) (lv0 := [(0, .ref (h 28)), (1, .int a0)]) (σ := σ) (fun r : Int32 => some (.int r)) (fun _ => σ) (by decide) rfl rfl (Nat.le_of_ble_eq_true rfl) rfl hW hr (fun p e s m args below meth c E => ?_)
  unfold f_X3_secondOfTriangle
  refine G.aload_n E dX3_secondOfTriangle_0 0 rfl rfl ?_
  refine G.getR (T := TX3) (N := 10) (C := RX3) (q0 := 28) (i := 0) E dX3_secondOfTriangle_1 iw_X3_secondOfTriangle_3 (wsC_at28 _ _ _) rfl (by decide) rfl (List.mem_of_getElem? (i := 1) rfl) ?_
  refine G.iload_n E dX3_secondOfTriangle_4 1 rfl rfl ?_
  refine G.callVi (n := 1) (T := TX4) (N := 8) (C := RX4) (a := h 1) (q0 := 1) (As := [.int a0]) E dX3_secondOfTriangle_5 (fun _ hv => c_X4_firstOf E.wf hv) gX3_secondOfTriangle_X4_firstOf rfl rfl rfl (by decide +kernel) ⟨Nat.le_of_ble_eq_true rfl, Nat.le_of_ble_eq_true rfl⟩ (wsC_at1 _ _ _) rfl rfl (Nat.le_of_ble_eq_true rfl) ⟨Nat.le_of_ble_eq_true rfl, Nat.le_of_ble_eq_true rfl⟩ (fun v1 => ?_)
  refine G.istore_n (lv' := [(2, .int v1), (0, .ref (h 28)), (1, .int a0)]) E dX3_secondOfTriangle_8 rfl (by decide) rfl ?_
  refine G.aload_n E dX3_secondOfTriangle_9 1 rfl rfl ?_
  refine G.getR (T := TX3) (N := 10) (C := RX3) (q0 := 28) (i := 0) E dX3_secondOfTriangle_10 iw_X3_secondOfTriangle_3 (wsC_at28 _ _ _) rfl (by decide) rfl (List.mem_of_getElem? (i := 1) rfl) ?_
  refine G.iload_n E dX3_secondOfTriangle_13 2 rfl rfl ?_
  refine G.callVi (n := 1) (T := TX4) (N := 8) (C := RX4) (a := h 1) (q0 := 1) (As := [.int a0]) E dX3_secondOfTriangle_14 (fun _ hv => c_X4_secondOf E.wf hv) gX3_secondOfTriangle_X4_secondOf rfl rfl rfl (by decide +kernel) ⟨Nat.le_of_ble_eq_true rfl, Nat.le_of_ble_eq_true rfl⟩ (wsC_at1 _ _ _) rfl rfl (Nat.le_of_ble_eq_true rfl) ⟨Nat.le_of_ble_eq_true rfl, Nat.le_of_ble_eq_true rfl⟩ (fun v2 => ?_)
  refine G.istore_n (lv' := [(3, .int v2), (2, .int v1), (0, .ref (h 28)), (1, .int a0)]) E dX3_secondOfTriangle_17 rfl (by decide) rfl ?_
  refine G.iconst (v := 0) E dX3_secondOfTriangle_18 (by decide) ?_
  refine G.istore (lv' := [(4, .int 0), (3, .int v2), (2, .int v1), (0, .ref (h 28)), (1, .int a0)]) E dX3_secondOfTriangle_19 (by decide) rfl ?_
  refine G.loc [3, 2, 1, 0] rfl ?_
  refine gl_X3_secondOfTriangle_21 E (fun _ => ?_) N _
  refine G.iconst (v := (-1)) E dX3_secondOfTriangle_106 (by decide) ?_
  exact G.iret E dX3_secondOfTriangle_107 rfl rfl
set_option maxHeartbeats 4000000 in
set_option maxRecDepth 100000 in
theorem iw_X3_planStar_3 : ∀ w ∈ u_ws RX3 TX3 10, w ∈ wsX3_planStar := fun _ h => List.mem_cons_of_mem _ (List.mem_append_left _ (List.mem_append_left _ (List.mem_append_right _ h)))
set_option maxHeartbeats 4000000 in
set_option maxRecDepth 100000 in
theorem iw_X3_planStar_4 : ∀ w ∈ u_ws RX4 TX4 8, w ∈ wsX3_planStar := fun _ h => List.mem_cons_of_mem _ (List.mem_append_right _ h)
set_option maxHeartbeats 4000000 in
set_option maxRecDepth 100000 in
theorem iw_X3_planStar_5 : ∀ w ∈ u_ws RX5 TX5 10, w ∈ wsX3_planStar := fun _ h => List.mem_cons_of_mem _ (List.mem_append_left _ (List.mem_append_right _ h))
abbrev rm_X3_planStar : Room := { frames := 4, cells := 0, slots := 0, locals := 92 }
noncomputable def f_X3_planStar (N : Nat) (σ : Wd) (a0 : Int32) : Option (Wd) :=
  bP (f_X4_firstOf N σ a0) fun v1 =>
  bP (f_X4_secondOf N σ a0) fun v2 =>
  bP (f_X3_secondOfTriangle N σ a0) fun v3 =>
  if v3 = (-1) then (
    some σ)
  else (
    bP (f_X4_farEndOf N σ v3 v1) fun v4 =>
    bP (f_X4_lowestBetween N σ v2 v4 (-1)) fun v5 =>
    bP (f_X4_conductanceOf N σ a0) fun v6 =>
    bP (f_X4_conductanceOf N σ v3) fun v7 =>
    bP (f_X4_conductanceOf N σ v5) fun v8 =>
    lI (((v6 * v7) + (v6 * v8)) + (v7 * v8)) fun v9 =>
    zb 1 (wI σ 29 0 1 fun s10 =>
    bP (f_X7_setOf N a0) fun v11 =>
    bP (f_X7_setOf N v3) fun v12 =>
    bP (f_X7_setOf N v5) fun v13 =>
    wI s10 29 2 ((v11 ||| v12) ||| v13) fun s14 =>
    wI s14 29 5 1 fun s15 =>
    gI s15 1 3 fun v16 =>
    bP (f_X5_bring N s15 v1 v16 v9 v8) fun s17 =>
    gI s17 1 3 fun v18 =>
    bP (f_X5_bring N s17 v2 v18 v9 v7) fun s19 =>
    bP (f_X4_farEndOf N s19 v3 v1) fun v20 =>
    gI s19 1 3 fun v21 =>
    bP (f_X5_bring N s19 v20 v21 v9 v6) fun s22 =>
    some s22))
set_option maxHeartbeats 4000000 in
set_option maxRecDepth 100000 in
theorem c_X3_planStar {l : Launch} {D : va_G} {cy : Nat → ClassId} {h : Nat → Nat} {N : Nat} {σ : Wd} {a0 : Int32} {σ1 : Wd} (hW : WF (wsC cy h) (adC h)) (hr : f_X3_planStar N σ a0 = some σ1) : Con l D cy (wsC cy h) (adC h) yX3_planStar wsX3_planStar rm_X3_planStar 0 0 [.ref (h 28), .int a0] (none) σ σ1 := by
  refine Con.of (ρ := Wd) (lv0 := [(0, .ref (h 28)), (1, .int a0)]) (σ := σ) (fun _ : Wd => none) (fun r => r) (by decide) rfl rfl (Nat.le_of_ble_eq_true rfl) rfl hW hr (fun p e s m args below meth c E => ?_)
  unfold f_X3_planStar
  refine G.aload_n E dX3_planStar_0 0 rfl rfl ?_
  refine G.getR (T := TX3) (N := 10) (C := RX3) (q0 := 28) (i := 0) E dX3_planStar_1 iw_X3_planStar_3 (wsC_at28 _ _ _) rfl (by decide) rfl (List.mem_of_getElem? (i := 1) rfl) ?_
  refine G.iload_n E dX3_planStar_4 1 rfl rfl ?_
  refine G.callVi (n := 1) (T := TX4) (N := 8) (C := RX4) (a := h 1) (q0 := 1) (As := [.int a0]) E dX3_planStar_5 (fun _ hv => c_X4_firstOf E.wf hv) gX3_planStar_X4_firstOf rfl rfl rfl (by decide +kernel) ⟨Nat.le_of_ble_eq_true rfl, Nat.le_of_ble_eq_true rfl⟩ (wsC_at1 _ _ _) rfl rfl (Nat.le_of_ble_eq_true rfl) ⟨Nat.le_of_ble_eq_true rfl, Nat.le_of_ble_eq_true rfl⟩ (fun v1 => ?_)
  refine G.istore_n (lv' := [(2, .int v1), (0, .ref (h 28)), (1, .int a0)]) E dX3_planStar_8 rfl (by decide) rfl ?_
  refine G.aload_n E dX3_planStar_9 1 rfl rfl ?_
  refine G.getR (T := TX3) (N := 10) (C := RX3) (q0 := 28) (i := 0) E dX3_planStar_10 iw_X3_planStar_3 (wsC_at28 _ _ _) rfl (by decide) rfl (List.mem_of_getElem? (i := 1) rfl) ?_
  refine G.iload_n E dX3_planStar_13 2 rfl rfl ?_
  refine G.callVi (n := 1) (T := TX4) (N := 8) (C := RX4) (a := h 1) (q0 := 1) (As := [.int a0]) E dX3_planStar_14 (fun _ hv => c_X4_secondOf E.wf hv) gX3_planStar_X4_secondOf rfl rfl rfl (by decide +kernel) ⟨Nat.le_of_ble_eq_true rfl, Nat.le_of_ble_eq_true rfl⟩ (wsC_at1 _ _ _) rfl rfl (Nat.le_of_ble_eq_true rfl) ⟨Nat.le_of_ble_eq_true rfl, Nat.le_of_ble_eq_true rfl⟩ (fun v2 => ?_)
  refine G.istore_n (lv' := [(3, .int v2), (2, .int v1), (0, .ref (h 28)), (1, .int a0)]) E dX3_planStar_17 rfl (by decide) rfl ?_
  refine G.aload_n E dX3_planStar_18 2 rfl rfl ?_
  refine G.iload_n E dX3_planStar_19 3 rfl rfl ?_
  refine G.callVi (n := 1) (T := TX3) (N := 10) (C := RX3) (a := h 28) (q0 := 28) (As := [.int a0]) E dX3_planStar_20 (fun _ hv => c_X3_secondOfTriangle E.wf hv) gX3_planStar_X3_secondOfTriangle rfl rfl rfl (by decide +kernel) ⟨Nat.le_of_ble_eq_true rfl, Nat.le_of_ble_eq_true rfl⟩ (wsC_at28 _ _ _) rfl rfl (Nat.le_of_ble_eq_true rfl) ⟨Nat.le_of_ble_eq_true rfl, Nat.le_of_ble_eq_true rfl⟩ (fun v3 => ?_)
  refine G.istore (lv' := [(4, .int v3), (3, .int v2), (2, .int v1), (0, .ref (h 28)), (1, .int a0)]) E dX3_planStar_23 (by decide) rfl ?_
  refine G.iload E dX3_planStar_25 0 rfl ?_
  refine G.iconst (v := (-1)) E dX3_planStar_27 (by decide) ?_
  refine G.icmp_ne (tgt := 32) E dX3_planStar_28 (by decide) ?_ ?_
  · exact G.vret E dX3_planStar_31 rfl rfl
  · refine G.aload_n E dX3_planStar_32 3 rfl rfl ?_
    refine G.getR (T := TX3) (N := 10) (C := RX3) (q0 := 28) (i := 0) E dX3_planStar_33 iw_X3_planStar_3 (wsC_at28 _ _ _) rfl (by decide) rfl (List.mem_of_getElem? (i := 1) rfl) ?_
    refine G.iload_n E dX3_planStar_36 1 rfl rfl ?_
    refine G.aload_n E dX3_planStar_37 3 rfl rfl ?_
    refine G.getR (T := TX3) (N := 10) (C := RX3) (q0 := 28) (i := 0) E dX3_planStar_38 iw_X3_planStar_3 (wsC_at28 _ _ _) rfl (by decide) rfl (List.mem_of_getElem? (i := 1) rfl) ?_
    refine G.iload E dX3_planStar_41 0 rfl ?_
    refine G.iload_n E dX3_planStar_43 2 rfl rfl ?_
    refine G.callVi (n := 2) (T := TX4) (N := 8) (C := RX4) (a := h 1) (q0 := 1) (As := [.int v3, .int v1]) E dX3_planStar_44 (fun _ hv => c_X4_farEndOf E.wf hv) gX3_planStar_X4_farEndOf rfl rfl rfl (by decide +kernel) ⟨Nat.le_of_ble_eq_true rfl, Nat.le_of_ble_eq_true rfl⟩ (wsC_at1 _ _ _) rfl rfl (Nat.le_of_ble_eq_true rfl) ⟨Nat.le_of_ble_eq_true rfl, Nat.le_of_ble_eq_true rfl⟩ (fun v4 => ?_)
    refine G.iconst (v := (-1)) E dX3_planStar_47 (by decide) ?_
    refine G.callVi (n := 3) (T := TX4) (N := 8) (C := RX4) (a := h 1) (q0 := 1) (As := [.int v2, .int v4, .int (-1)]) E dX3_planStar_48 (fun _ hv => c_X4_lowestBetween E.wf hv) gX3_planStar_X4_lowestBetween rfl rfl rfl (by decide +kernel) ⟨Nat.le_of_ble_eq_true rfl, Nat.le_of_ble_eq_true rfl⟩ (wsC_at1 _ _ _) rfl rfl (Nat.le_of_ble_eq_true rfl) ⟨Nat.le_of_ble_eq_true rfl, Nat.le_of_ble_eq_true rfl⟩ (fun v5 => ?_)
    refine G.istore (lv' := [(5, .int v5), (4, .int v3), (3, .int v2), (2, .int v1), (0, .ref (h 28)), (1, .int a0)]) E dX3_planStar_51 (by decide) rfl ?_
    refine G.aload_n E dX3_planStar_53 4 rfl rfl ?_
    refine G.getR (T := TX3) (N := 10) (C := RX3) (q0 := 28) (i := 0) E dX3_planStar_54 iw_X3_planStar_3 (wsC_at28 _ _ _) rfl (by decide) rfl (List.mem_of_getElem? (i := 1) rfl) ?_
    refine G.iload_n E dX3_planStar_57 5 rfl rfl ?_
    refine G.callVi (n := 1) (T := TX4) (N := 8) (C := RX4) (a := h 1) (q0 := 1) (As := [.int a0]) E dX3_planStar_58 (fun _ hv => c_X4_conductanceOf E.wf hv) gX3_planStar_X4_conductanceOf rfl rfl rfl (by decide +kernel) ⟨Nat.le_of_ble_eq_true rfl, Nat.le_of_ble_eq_true rfl⟩ (wsC_at1 _ _ _) rfl rfl (Nat.le_of_ble_eq_true rfl) ⟨Nat.le_of_ble_eq_true rfl, Nat.le_of_ble_eq_true rfl⟩ (fun v6 => ?_)
    refine G.istore (lv' := [(6, .int v6), (5, .int v5), (4, .int v3), (3, .int v2), (2, .int v1), (0, .ref (h 28)), (1, .int a0)]) E dX3_planStar_61 (by decide) rfl ?_
    refine G.aload_n E dX3_planStar_63 5 rfl rfl ?_
    refine G.getR (T := TX3) (N := 10) (C := RX3) (q0 := 28) (i := 0) E dX3_planStar_64 iw_X3_planStar_3 (wsC_at28 _ _ _) rfl (by decide) rfl (List.mem_of_getElem? (i := 1) rfl) ?_
    refine G.iload E dX3_planStar_67 2 rfl ?_
    refine G.callVi (n := 1) (T := TX4) (N := 8) (C := RX4) (a := h 1) (q0 := 1) (As := [.int v3]) E dX3_planStar_69 (fun _ hv => c_X4_conductanceOf E.wf hv) gX3_planStar_X4_conductanceOf rfl rfl rfl (by decide +kernel) ⟨Nat.le_of_ble_eq_true rfl, Nat.le_of_ble_eq_true rfl⟩ (wsC_at1 _ _ _) rfl rfl (Nat.le_of_ble_eq_true rfl) ⟨Nat.le_of_ble_eq_true rfl, Nat.le_of_ble_eq_true rfl⟩ (fun v7 => ?_)
    refine G.istore (lv' := [(7, .int v7), (6, .int v6), (5, .int v5), (4, .int v3), (3, .int v2), (2, .int v1), (0, .ref (h 28)), (1, .int a0)]) E dX3_planStar_72 (by decide) rfl ?_
    refine G.aload_n E dX3_planStar_74 6 rfl rfl ?_
    refine G.getR (T := TX3) (N := 10) (C := RX3) (q0 := 28) (i := 0) E dX3_planStar_75 iw_X3_planStar_3 (wsC_at28 _ _ _) rfl (by decide) rfl (List.mem_of_getElem? (i := 1) rfl) ?_
    refine G.iload E dX3_planStar_78 2 rfl ?_
    refine G.callVi (n := 1) (T := TX4) (N := 8) (C := RX4) (a := h 1) (q0 := 1) (As := [.int v5]) E dX3_planStar_80 (fun _ hv => c_X4_conductanceOf E.wf hv) gX3_planStar_X4_conductanceOf rfl rfl rfl (by decide +kernel) ⟨Nat.le_of_ble_eq_true rfl, Nat.le_of_ble_eq_true rfl⟩ (wsC_at1 _ _ _) rfl rfl (Nat.le_of_ble_eq_true rfl) ⟨Nat.le_of_ble_eq_true rfl, Nat.le_of_ble_eq_true rfl⟩ (fun v8 => ?_)
    refine G.istore (lv' := [(8, .int v8), (7, .int v7), (6, .int v6), (5, .int v5), (4, .int v3), (3, .int v2), (2, .int v1), (0, .ref (h 28)), (1, .int a0)]) E dX3_planStar_83 (by decide) rfl ?_
    refine G.iload E dX3_planStar_85 2 rfl ?_
    refine G.iload E dX3_planStar_87 1 rfl ?_
    refine G.imul E dX3_planStar_89 ?_
    refine G.iload E dX3_planStar_90 2 rfl ?_
    refine G.iload E dX3_planStar_92 0 rfl ?_
    refine G.imul E dX3_planStar_94 ?_
    refine G.iadd E dX3_planStar_95 ?_
    refine G.iload E dX3_planStar_96 1 rfl ?_
    refine G.iload E dX3_planStar_98 0 rfl ?_
    refine G.imul E dX3_planStar_100 ?_
    refine G.iadd E dX3_planStar_101 ?_
    refine G.letI (fun v9 => ?_)
    refine G.istore (lv' := [(9, .int v9), (8, .int v8), (7, .int v7), (6, .int v6), (5, .int v5), (4, .int v3), (3, .int v2), (2, .int v1), (0, .ref (h 28)), (1, .int a0)]) E dX3_planStar_102 (by decide) rfl ?_
    refine G.aload_n E dX3_planStar_104 8 rfl rfl ?_
    refine G.getR (T := TX3) (N := 10) (C := RX3) (q0 := 28) (i := 1) E dX3_planStar_105 iw_X3_planStar_3 (wsC_at28 _ _ _) rfl (by decide) rfl (List.mem_of_getElem? (i := 2) rfl) ?_
    refine G.iconst (v := 1) E dX3_planStar_108 (by decide) ?_
    refine G.putZ (T := TX5) (N := 10) (C := RX5) (q0 := 29) (i := 0) E dX3_planStar_109 iw_X3_planStar_5 tyX5 tyX5_ok nmX5 (wsC_at29 _ _ _) rfl (by decide) (List.mem_of_getElem? (i := 3) rfl) rfl (by decide +kernel) (Nat.le_of_ble_eq_true rfl) (wsC_set29_0 _ _ _ _) (fun s10 => ?_)
    refine G.aload_n E dX3_planStar_112 8 rfl rfl ?_
    refine G.getR (T := TX3) (N := 10) (C := RX3) (q0 := 28) (i := 1) E dX3_planStar_113 iw_X3_planStar_3 (wsC_at28 _ _ _) rfl (by decide) rfl (List.mem_of_getElem? (i := 2) rfl) ?_
    refine G.iload_n E dX3_planStar_116 9 rfl rfl ?_
    refine G.callNi (n := 1) (As := [.int a0]) E dX3_planStar_117 (fun _ hv => c_X7_setOf E.wf hv) gX3_planStar_X7_setOf_n109 (List.mem_of_getElem? (i := 5) rfl) (List.mem_of_getElem? (i := 29) rfl) (List.mem_of_getElem? (i := 51) rfl) rfl rfl rfl (by decide +kernel) ⟨Nat.le_of_ble_eq_true rfl, Nat.le_of_ble_eq_true rfl⟩ rfl (Nat.le_of_ble_eq_true rfl) ⟨Nat.le_of_ble_eq_true rfl, Nat.le_of_ble_eq_true rfl⟩ (fun v11 => ?_)
    refine G.iload E dX3_planStar_120 5 rfl ?_
    refine G.callNi (n := 1) (As := [.int v3]) E dX3_planStar_122 (fun _ hv => c_X7_setOf E.wf hv) gX3_planStar_X7_setOf_n109 (List.mem_of_getElem? (i := 5) rfl) (List.mem_of_getElem? (i := 29) rfl) (List.mem_of_getElem? (i := 51) rfl) rfl rfl rfl (by decide +kernel) ⟨Nat.le_of_ble_eq_true rfl, Nat.le_of_ble_eq_true rfl⟩ rfl (Nat.le_of_ble_eq_true rfl) ⟨Nat.le_of_ble_eq_true rfl, Nat.le_of_ble_eq_true rfl⟩ (fun v12 => ?_)
    refine G.ior E dX3_planStar_125 ?_
    refine G.iload E dX3_planStar_126 4 rfl ?_
    refine G.callNi (n := 1) (As := [.int v5]) E dX3_planStar_128 (fun _ hv => c_X7_setOf E.wf hv) gX3_planStar_X7_setOf_n109 (List.mem_of_getElem? (i := 5) rfl) (List.mem_of_getElem? (i := 29) rfl) (List.mem_of_getElem? (i := 51) rfl) rfl rfl rfl (by decide +kernel) ⟨Nat.le_of_ble_eq_true rfl, Nat.le_of_ble_eq_true rfl⟩ rfl (Nat.le_of_ble_eq_true rfl) ⟨Nat.le_of_ble_eq_true rfl, Nat.le_of_ble_eq_true rfl⟩ (fun v13 => ?_)
    refine G.ior E dX3_planStar_131 ?_
    refine G.putI (T := TX5) (N := 10) (C := RX5) (q0 := 29) (i := 2) (ty := .int) E dX3_planStar_132 iw_X3_planStar_5 tyX5 tyX5_ok nmX5 (wsC_at29 _ _ _) rfl (by decide) (List.mem_of_getElem? (i := 4) rfl) rfl (by decide +kernel) rfl rfl (Nat.le_of_ble_eq_true rfl) (wsC_set29_2 _ _ _ _) (fun s14 => ?_)
    refine G.aload_n E dX3_planStar_135 8 rfl rfl ?_
    refine G.getR (T := TX3) (N := 10) (C := RX3) (q0 := 28) (i := 1) E dX3_planStar_136 iw_X3_planStar_3 (wsC_at28 _ _ _) rfl (by decide) rfl (List.mem_of_getElem? (i := 2) rfl) ?_
    refine G.iconst (v := 1) E dX3_planStar_139 (by decide) ?_
    refine G.putI (T := TX5) (N := 10) (C := RX5) (q0 := 29) (i := 5) (ty := .int) E dX3_planStar_140 iw_X3_planStar_5 tyX5 tyX5_ok nmX5 (wsC_at29 _ _ _) rfl (by decide) (List.mem_of_getElem? (i := 5) rfl) rfl (by decide +kernel) rfl rfl (Nat.le_of_ble_eq_true rfl) (wsC_set29_5 _ _ _ _) (fun s15 => ?_)
    refine G.aload_n E dX3_planStar_143 8 rfl rfl ?_
    refine G.getR (T := TX3) (N := 10) (C := RX3) (q0 := 28) (i := 1) E dX3_planStar_144 iw_X3_planStar_3 (wsC_at28 _ _ _) rfl (by decide) rfl (List.mem_of_getElem? (i := 2) rfl) ?_
    refine G.iload_n E dX3_planStar_147 7 rfl rfl ?_
    refine G.aload_n E dX3_planStar_148 8 rfl rfl ?_
    refine G.getR (T := TX3) (N := 10) (C := RX3) (q0 := 28) (i := 0) E dX3_planStar_149 iw_X3_planStar_3 (wsC_at28 _ _ _) rfl (by decide) rfl (List.mem_of_getElem? (i := 1) rfl) ?_
    refine G.getI (T := TX4) (N := 8) (C := RX4) (q0 := 1) (i := 3) E dX3_planStar_152 iw_X3_planStar_4 (wsC_at1 _ _ _) rfl (by decide) rfl (List.mem_of_getElem? (i := 6) rfl) (fun v16 => ?_)
    refine G.iload E dX3_planStar_155 0 rfl ?_
    refine G.iload E dX3_planStar_157 1 rfl ?_
    refine G.callVv (n := 4) (T := TX5) (N := 10) (C := RX5) (a := h 29) (q0 := 29) (As := [.int v1, .int v16, .int v9, .int v8]) E dX3_planStar_159 (fun _ hv => c_X5_bring E.wf hv) gX3_planStar_X5_bring rfl rfl rfl (by decide +kernel) ⟨Nat.le_of_ble_eq_true rfl, Nat.le_of_ble_eq_true rfl⟩ (wsC_at29 _ _ _) rfl rfl (Nat.le_of_ble_eq_true rfl) ⟨Nat.le_of_ble_eq_true rfl, Nat.le_of_ble_eq_true rfl⟩ (fun s17 => ?_)
    refine G.aload_n E dX3_planStar_162 8 rfl rfl ?_
    refine G.getR (T := TX3) (N := 10) (C := RX3) (q0 := 28) (i := 1) E dX3_planStar_163 iw_X3_planStar_3 (wsC_at28 _ _ _) rfl (by decide) rfl (List.mem_of_getElem? (i := 2) rfl) ?_
    refine G.iload_n E dX3_planStar_166 6 rfl rfl ?_
    refine G.aload_n E dX3_planStar_167 8 rfl rfl ?_
    refine G.getR (T := TX3) (N := 10) (C := RX3) (q0 := 28) (i := 0) E dX3_planStar_168 iw_X3_planStar_3 (wsC_at28 _ _ _) rfl (by decide) rfl (List.mem_of_getElem? (i := 1) rfl) ?_
    refine G.getI (T := TX4) (N := 8) (C := RX4) (q0 := 1) (i := 3) E dX3_planStar_171 iw_X3_planStar_4 (wsC_at1 _ _ _) rfl (by decide) rfl (List.mem_of_getElem? (i := 6) rfl) (fun v18 => ?_)
    refine G.iload E dX3_planStar_174 0 rfl ?_
    refine G.iload E dX3_planStar_176 2 rfl ?_
    refine G.callVv (n := 4) (T := TX5) (N := 10) (C := RX5) (a := h 29) (q0 := 29) (As := [.int v2, .int v18, .int v9, .int v7]) E dX3_planStar_178 (fun _ hv => c_X5_bring E.wf hv) gX3_planStar_X5_bring rfl rfl rfl (by decide +kernel) ⟨Nat.le_of_ble_eq_true rfl, Nat.le_of_ble_eq_true rfl⟩ (wsC_at29 _ _ _) rfl rfl (Nat.le_of_ble_eq_true rfl) ⟨Nat.le_of_ble_eq_true rfl, Nat.le_of_ble_eq_true rfl⟩ (fun s19 => ?_)
    refine G.aload_n E dX3_planStar_181 8 rfl rfl ?_
    refine G.getR (T := TX3) (N := 10) (C := RX3) (q0 := 28) (i := 1) E dX3_planStar_182 iw_X3_planStar_3 (wsC_at28 _ _ _) rfl (by decide) rfl (List.mem_of_getElem? (i := 2) rfl) ?_
    refine G.aload_n E dX3_planStar_185 8 rfl rfl ?_
    refine G.getR (T := TX3) (N := 10) (C := RX3) (q0 := 28) (i := 0) E dX3_planStar_186 iw_X3_planStar_3 (wsC_at28 _ _ _) rfl (by decide) rfl (List.mem_of_getElem? (i := 1) rfl) ?_
    refine G.iload E dX3_planStar_189 5 rfl ?_
    refine G.iload_n E dX3_planStar_191 7 rfl rfl ?_
    refine G.callVi (n := 2) (T := TX4) (N := 8) (C := RX4) (a := h 1) (q0 := 1) (As := [.int v3, .int v1]) E dX3_planStar_192 (fun _ hv => c_X4_farEndOf E.wf hv) gX3_planStar_X4_farEndOf rfl rfl rfl (by decide +kernel) ⟨Nat.le_of_ble_eq_true rfl, Nat.le_of_ble_eq_true rfl⟩ (wsC_at1 _ _ _) rfl rfl (Nat.le_of_ble_eq_true rfl) ⟨Nat.le_of_ble_eq_true rfl, Nat.le_of_ble_eq_true rfl⟩ (fun v20 => ?_)
    refine G.aload_n E dX3_planStar_195 8 rfl rfl ?_
    refine G.getR (T := TX3) (N := 10) (C := RX3) (q0 := 28) (i := 0) E dX3_planStar_196 iw_X3_planStar_3 (wsC_at28 _ _ _) rfl (by decide) rfl (List.mem_of_getElem? (i := 1) rfl) ?_
    refine G.getI (T := TX4) (N := 8) (C := RX4) (q0 := 1) (i := 3) E dX3_planStar_199 iw_X3_planStar_4 (wsC_at1 _ _ _) rfl (by decide) rfl (List.mem_of_getElem? (i := 6) rfl) (fun v21 => ?_)
    refine G.iload E dX3_planStar_202 0 rfl ?_
    refine G.iload E dX3_planStar_204 3 rfl ?_
    refine G.callVv (n := 4) (T := TX5) (N := 10) (C := RX5) (a := h 29) (q0 := 29) (As := [.int v20, .int v21, .int v9, .int v6]) E dX3_planStar_206 (fun _ hv => c_X5_bring E.wf hv) gX3_planStar_X5_bring rfl rfl rfl (by decide +kernel) ⟨Nat.le_of_ble_eq_true rfl, Nat.le_of_ble_eq_true rfl⟩ (wsC_at29 _ _ _) rfl rfl (Nat.le_of_ble_eq_true rfl) ⟨Nat.le_of_ble_eq_true rfl, Nat.le_of_ble_eq_true rfl⟩ (fun s22 => ?_)
    exact G.vret E dX3_planStar_209 rfl rfl
set_option maxHeartbeats 4000000 in
set_option maxRecDepth 100000 in
theorem iw_X4_hasRoom_4 : ∀ w ∈ u_ws RX4 TX4 8, w ∈ wsX4_hasRoom := fun _ h => List.mem_cons_of_mem _ (List.mem_append_right _ h)
abbrev rm_X4_hasRoom : Room := { frames := 0, cells := 0, slots := 0, locals := 0 }
noncomputable def f_X4_hasRoom (N : Nat) (σ : Wd) (a0 : Int32) (a1 : Int32) : Option (Int32) :=
  gI σ 1 3 fun v1 =>
  if 7 < (v1 + a0) then (
    some 0)
  else (
    gI σ 1 4 fun v2 =>
    if 20 < (v2 + a1) then (
      some 0)
    else (
      some 1))
set_option maxHeartbeats 4000000 in
set_option maxRecDepth 100000 in
theorem c_X4_hasRoom {l : Launch} {D : va_G} {cy : Nat → ClassId} {h : Nat → Nat} {N : Nat} {σ : Wd} {a0 : Int32} {a1 : Int32} {r : Int32} (hW : WF (wsC cy h) (adC h)) (hr : f_X4_hasRoom N σ a0 a1 = some r) : Con l D cy (wsC cy h) (adC h) yX4_hasRoom wsX4_hasRoom rm_X4_hasRoom 0 0 [.ref (h 1), .int a0, .int a1] (some (.int r)) σ σ := by
  refine Con.of (ρ := Int32) (lv0 := [(0, .ref (h 1)), (1, .int a0), (2, .int a1)]) (σ := σ) (fun r : Int32 => some (.int r)) (fun _ => σ) (by decide) rfl rfl (Nat.le_of_ble_eq_true rfl) rfl hW hr (fun p e s m args below meth c E => ?_)
  unfold f_X4_hasRoom
  refine G.aload_n E dX4_hasRoom_0 0 rfl rfl ?_
  refine G.getI (T := TX4) (N := 8) (C := RX4) (q0 := 1) (i := 3) E dX4_hasRoom_1 iw_X4_hasRoom_4 (wsC_at1 _ _ _) rfl (by decide) rfl (List.mem_of_getElem? (i := 1) rfl) (fun v1 => ?_)
  refine G.iload_n E dX4_hasRoom_4 1 rfl rfl ?_
  refine G.iadd E dX4_hasRoom_5 ?_
  refine G.bipush (v := 7) E dX4_hasRoom_6 (by decide) ?_
  refine G.icmp_gt (tgt := 26) E dX4_hasRoom_8 (by decide) ?_ ?_
  · refine G.iconst (v := 0) E dX4_hasRoom_26 (by decide) ?_
    exact G.zretc E dX4_hasRoom_27 rfl rfl rfl
  · refine G.aload_n E dX4_hasRoom_11 0 rfl rfl ?_
    refine G.getI (T := TX4) (N := 8) (C := RX4) (q0 := 1) (i := 4) E dX4_hasRoom_12 iw_X4_hasRoom_4 (wsC_at1 _ _ _) rfl (by decide) rfl (List.mem_of_getElem? (i := 2) rfl) (fun v2 => ?_)
    refine G.iload_n E dX4_hasRoom_15 2 rfl rfl ?_
    refine G.iadd E dX4_hasRoom_16 ?_
    refine G.bipush (v := 20) E dX4_hasRoom_17 (by decide) ?_
    refine G.icmp_gt (tgt := 26) E dX4_hasRoom_19 (by decide) ?_ ?_
    · refine G.iconst (v := 0) E dX4_hasRoom_26 (by decide) ?_
      exact G.zretc E dX4_hasRoom_27 rfl rfl rfl
    · refine G.iconst (v := 1) E dX4_hasRoom_22 (by decide) ?_
      refine G.goto (tgt := 27) E dX4_hasRoom_23 (by decide) ?_
      exact G.zretc E dX4_hasRoom_27 rfl rfl rfl
set_option maxHeartbeats 4000000 in
set_option maxRecDepth 100000 in
theorem iw_X3_keepAsItIs_3 : ∀ w ∈ u_ws RX3 TX3 10, w ∈ wsX3_keepAsItIs := fun _ h => List.mem_cons_of_mem _ (List.mem_append_left _ (List.mem_append_left _ (List.mem_append_right _ h)))
set_option maxHeartbeats 4000000 in
set_option maxRecDepth 100000 in
theorem iw_X3_keepAsItIs_4 : ∀ w ∈ u_ws RX4 TX4 8, w ∈ wsX3_keepAsItIs := fun _ h => List.mem_cons_of_mem _ (List.mem_append_left _ (List.mem_append_right _ h))
set_option maxHeartbeats 4000000 in
set_option maxRecDepth 100000 in
theorem iw_X3_keepAsItIs_5 : ∀ w ∈ u_ws RX5 TX5 10, w ∈ wsX3_keepAsItIs := fun _ h => List.mem_cons_of_mem _ (List.mem_append_right _ h)
abbrev rm_X3_keepAsItIs : Room := { frames := 1, cells := 0, slots := 0, locals := 21 }
noncomputable def f_X3_keepAsItIs (N : Nat) (σ : Wd) : Option (Int32 × Wd) :=
  gI σ 28 9 fun v1 =>
  if v1 < 0 then (
    some (0, σ))
  else (
    gI σ 28 9 fun v2 =>
    if v2 < 20 then (
      gI σ 28 9 fun v3 =>
      gI σ 1 0 fun v4 =>
      aI σ 34 20 v3 v4 fun s5 =>
      gI s5 28 9 fun v6 =>
      gI s5 1 2 fun v7 =>
      aI s5 35 20 v6 v7 fun s8 =>
      gI s8 28 9 fun v9 =>
      gI s8 1 3 fun v10 =>
      aI s8 36 20 v9 v10 fun s11 =>
      gI s11 28 9 fun v12 =>
      gI s11 1 4 fun v13 =>
      aI s11 37 20 v12 v13 fun s14 =>
      gI s14 28 9 fun v15 =>
      gI s14 29 3 fun v16 =>
      aI s14 38 20 v15 v16 fun s17 =>
      gI s17 28 9 fun v18 =>
      gI s17 29 3 fun v19 =>
      bP (f_X4_conductanceOf N s17 v19) fun v20 =>
      aI s17 39 20 v18 v20 fun s21 =>
      gI s21 28 9 fun v22 =>
      wI s21 28 9 (v22 + 1) fun s23 =>
      some (1, s23))
    else (
      some (0, σ)))
set_option maxHeartbeats 4000000 in
set_option maxRecDepth 100000 in
theorem c_X3_keepAsItIs {l : Launch} {D : va_G} {cy : Nat → ClassId} {h : Nat → Nat} {N : Nat} {σ : Wd} {r : Int32} {σ1 : Wd} (hW : WF (wsC cy h) (adC h)) (hr : f_X3_keepAsItIs N σ = some (r, σ1)) : Con l D cy (wsC cy h) (adC h) yX3_keepAsItIs wsX3_keepAsItIs rm_X3_keepAsItIs 0 0 [.ref (h 28)] (some (.int r)) σ σ1 := by
  refine Con.of (ρ := Int32 × Wd) (lv0 := [(0, .ref (h 28))]) (σ := σ) (fun r : Int32 × Wd => some (.int r.1)) (fun r => r.2) (by decide) rfl rfl (Nat.le_of_ble_eq_true rfl) rfl hW hr (fun p e s m args below meth c E => ?_)
  unfold f_X3_keepAsItIs
  refine G.aload_n E dX3_keepAsItIs_0 0 rfl rfl ?_
  refine G.getI (T := TX3) (N := 10) (C := RX3) (q0 := 28) (i := 9) E dX3_keepAsItIs_1 iw_X3_keepAsItIs_3 (wsC_at28 _ _ _) rfl (by decide) rfl (List.mem_of_getElem? (i := 1) rfl) (fun v1 => ?_)
  refine G.if_lt (tgt := 16) E dX3_keepAsItIs_4 (by decide) ?_ ?_
  · refine G.iconst (v := 0) E dX3_keepAsItIs_16 (by decide) ?_
    exact G.zretc E dX3_keepAsItIs_17 rfl rfl rfl
  · refine G.aload_n E dX3_keepAsItIs_7 0 rfl rfl ?_
    refine G.getI (T := TX3) (N := 10) (C := RX3) (q0 := 28) (i := 9) E dX3_keepAsItIs_8 iw_X3_keepAsItIs_3 (wsC_at28 _ _ _) rfl (by decide) rfl (List.mem_of_getElem? (i := 1) rfl) (fun v2 => ?_)
    refine G.bipush (v := 20) E dX3_keepAsItIs_11 (by decide) ?_
    refine G.icmp_lt (tgt := 18) E dX3_keepAsItIs_13 (by decide) ?_ ?_
    · refine G.aload_n E dX3_keepAsItIs_18 0 rfl rfl ?_
      refine G.getR (T := TX3) (N := 10) (C := RX3) (q0 := 28) (i := 3) E dX3_keepAsItIs_19 iw_X3_keepAsItIs_3 (wsC_at28 _ _ _) rfl (by decide) rfl (List.mem_of_getElem? (i := 2) rfl) ?_
      refine G.aload_n E dX3_keepAsItIs_22 0 rfl rfl ?_
      refine G.getI (T := TX3) (N := 10) (C := RX3) (q0 := 28) (i := 9) E dX3_keepAsItIs_23 iw_X3_keepAsItIs_3 (wsC_at28 _ _ _) rfl (by decide) rfl (List.mem_of_getElem? (i := 1) rfl) (fun v3 => ?_)
      refine G.aload_n E dX3_keepAsItIs_26 0 rfl rfl ?_
      refine G.getR (T := TX3) (N := 10) (C := RX3) (q0 := 28) (i := 0) E dX3_keepAsItIs_27 iw_X3_keepAsItIs_3 (wsC_at28 _ _ _) rfl (by decide) rfl (List.mem_of_getElem? (i := 3) rfl) ?_
      refine G.getI (T := TX4) (N := 8) (C := RX4) (q0 := 1) (i := 0) E dX3_keepAsItIs_30 iw_X3_keepAsItIs_4 (wsC_at1 _ _ _) rfl (by decide) rfl (List.mem_of_getElem? (i := 4) rfl) (fun v4 => ?_)
      refine G.iast (q0 := 34) E dX3_keepAsItIs_33 (wsC_at34 _ _ _) (fun j => wsC_set34 _ _ _ _ j) (fun s5 => ?_)
      refine G.aload_n E dX3_keepAsItIs_34 0 rfl rfl ?_
      refine G.getR (T := TX3) (N := 10) (C := RX3) (q0 := 28) (i := 4) E dX3_keepAsItIs_35 iw_X3_keepAsItIs_3 (wsC_at28 _ _ _) rfl (by decide) rfl (List.mem_of_getElem? (i := 5) rfl) ?_
      refine G.aload_n E dX3_keepAsItIs_38 0 rfl rfl ?_
      refine G.getI (T := TX3) (N := 10) (C := RX3) (q0 := 28) (i := 9) E dX3_keepAsItIs_39 iw_X3_keepAsItIs_3 (wsC_at28 _ _ _) rfl (by decide) rfl (List.mem_of_getElem? (i := 1) rfl) (fun v6 => ?_)
      refine G.aload_n E dX3_keepAsItIs_42 0 rfl rfl ?_
      refine G.getR (T := TX3) (N := 10) (C := RX3) (q0 := 28) (i := 0) E dX3_keepAsItIs_43 iw_X3_keepAsItIs_3 (wsC_at28 _ _ _) rfl (by decide) rfl (List.mem_of_getElem? (i := 3) rfl) ?_
      refine G.getI (T := TX4) (N := 8) (C := RX4) (q0 := 1) (i := 2) E dX3_keepAsItIs_46 iw_X3_keepAsItIs_4 (wsC_at1 _ _ _) rfl (by decide) rfl (List.mem_of_getElem? (i := 6) rfl) (fun v7 => ?_)
      refine G.iast (q0 := 35) E dX3_keepAsItIs_49 (wsC_at35 _ _ _) (fun j => wsC_set35 _ _ _ _ j) (fun s8 => ?_)
      refine G.aload_n E dX3_keepAsItIs_50 0 rfl rfl ?_
      refine G.getR (T := TX3) (N := 10) (C := RX3) (q0 := 28) (i := 5) E dX3_keepAsItIs_51 iw_X3_keepAsItIs_3 (wsC_at28 _ _ _) rfl (by decide) rfl (List.mem_of_getElem? (i := 7) rfl) ?_
      refine G.aload_n E dX3_keepAsItIs_54 0 rfl rfl ?_
      refine G.getI (T := TX3) (N := 10) (C := RX3) (q0 := 28) (i := 9) E dX3_keepAsItIs_55 iw_X3_keepAsItIs_3 (wsC_at28 _ _ _) rfl (by decide) rfl (List.mem_of_getElem? (i := 1) rfl) (fun v9 => ?_)
      refine G.aload_n E dX3_keepAsItIs_58 0 rfl rfl ?_
      refine G.getR (T := TX3) (N := 10) (C := RX3) (q0 := 28) (i := 0) E dX3_keepAsItIs_59 iw_X3_keepAsItIs_3 (wsC_at28 _ _ _) rfl (by decide) rfl (List.mem_of_getElem? (i := 3) rfl) ?_
      refine G.getI (T := TX4) (N := 8) (C := RX4) (q0 := 1) (i := 3) E dX3_keepAsItIs_62 iw_X3_keepAsItIs_4 (wsC_at1 _ _ _) rfl (by decide) rfl (List.mem_of_getElem? (i := 8) rfl) (fun v10 => ?_)
      refine G.iast (q0 := 36) E dX3_keepAsItIs_65 (wsC_at36 _ _ _) (fun j => wsC_set36 _ _ _ _ j) (fun s11 => ?_)
      refine G.aload_n E dX3_keepAsItIs_66 0 rfl rfl ?_
      refine G.getR (T := TX3) (N := 10) (C := RX3) (q0 := 28) (i := 6) E dX3_keepAsItIs_67 iw_X3_keepAsItIs_3 (wsC_at28 _ _ _) rfl (by decide) rfl (List.mem_of_getElem? (i := 9) rfl) ?_
      refine G.aload_n E dX3_keepAsItIs_70 0 rfl rfl ?_
      refine G.getI (T := TX3) (N := 10) (C := RX3) (q0 := 28) (i := 9) E dX3_keepAsItIs_71 iw_X3_keepAsItIs_3 (wsC_at28 _ _ _) rfl (by decide) rfl (List.mem_of_getElem? (i := 1) rfl) (fun v12 => ?_)
      refine G.aload_n E dX3_keepAsItIs_74 0 rfl rfl ?_
      refine G.getR (T := TX3) (N := 10) (C := RX3) (q0 := 28) (i := 0) E dX3_keepAsItIs_75 iw_X3_keepAsItIs_3 (wsC_at28 _ _ _) rfl (by decide) rfl (List.mem_of_getElem? (i := 3) rfl) ?_
      refine G.getI (T := TX4) (N := 8) (C := RX4) (q0 := 1) (i := 4) E dX3_keepAsItIs_78 iw_X3_keepAsItIs_4 (wsC_at1 _ _ _) rfl (by decide) rfl (List.mem_of_getElem? (i := 10) rfl) (fun v13 => ?_)
      refine G.iast (q0 := 37) E dX3_keepAsItIs_81 (wsC_at37 _ _ _) (fun j => wsC_set37 _ _ _ _ j) (fun s14 => ?_)
      refine G.aload_n E dX3_keepAsItIs_82 0 rfl rfl ?_
      refine G.getR (T := TX3) (N := 10) (C := RX3) (q0 := 28) (i := 7) E dX3_keepAsItIs_83 iw_X3_keepAsItIs_3 (wsC_at28 _ _ _) rfl (by decide) rfl (List.mem_of_getElem? (i := 11) rfl) ?_
      refine G.aload_n E dX3_keepAsItIs_86 0 rfl rfl ?_
      refine G.getI (T := TX3) (N := 10) (C := RX3) (q0 := 28) (i := 9) E dX3_keepAsItIs_87 iw_X3_keepAsItIs_3 (wsC_at28 _ _ _) rfl (by decide) rfl (List.mem_of_getElem? (i := 1) rfl) (fun v15 => ?_)
      refine G.aload_n E dX3_keepAsItIs_90 0 rfl rfl ?_
      refine G.getR (T := TX3) (N := 10) (C := RX3) (q0 := 28) (i := 1) E dX3_keepAsItIs_91 iw_X3_keepAsItIs_3 (wsC_at28 _ _ _) rfl (by decide) rfl (List.mem_of_getElem? (i := 12) rfl) ?_
      refine G.getI (T := TX5) (N := 10) (C := RX5) (q0 := 29) (i := 3) E dX3_keepAsItIs_94 iw_X3_keepAsItIs_5 (wsC_at29 _ _ _) rfl (by decide) rfl (List.mem_of_getElem? (i := 13) rfl) (fun v16 => ?_)
      refine G.iast (q0 := 38) E dX3_keepAsItIs_97 (wsC_at38 _ _ _) (fun j => wsC_set38 _ _ _ _ j) (fun s17 => ?_)
      refine G.aload_n E dX3_keepAsItIs_98 0 rfl rfl ?_
      refine G.getR (T := TX3) (N := 10) (C := RX3) (q0 := 28) (i := 8) E dX3_keepAsItIs_99 iw_X3_keepAsItIs_3 (wsC_at28 _ _ _) rfl (by decide) rfl (List.mem_of_getElem? (i := 14) rfl) ?_
      refine G.aload_n E dX3_keepAsItIs_102 0 rfl rfl ?_
      refine G.getI (T := TX3) (N := 10) (C := RX3) (q0 := 28) (i := 9) E dX3_keepAsItIs_103 iw_X3_keepAsItIs_3 (wsC_at28 _ _ _) rfl (by decide) rfl (List.mem_of_getElem? (i := 1) rfl) (fun v18 => ?_)
      refine G.aload_n E dX3_keepAsItIs_106 0 rfl rfl ?_
      refine G.getR (T := TX3) (N := 10) (C := RX3) (q0 := 28) (i := 0) E dX3_keepAsItIs_107 iw_X3_keepAsItIs_3 (wsC_at28 _ _ _) rfl (by decide) rfl (List.mem_of_getElem? (i := 3) rfl) ?_
      refine G.aload_n E dX3_keepAsItIs_110 0 rfl rfl ?_
      refine G.getR (T := TX3) (N := 10) (C := RX3) (q0 := 28) (i := 1) E dX3_keepAsItIs_111 iw_X3_keepAsItIs_3 (wsC_at28 _ _ _) rfl (by decide) rfl (List.mem_of_getElem? (i := 12) rfl) ?_
      refine G.getI (T := TX5) (N := 10) (C := RX5) (q0 := 29) (i := 3) E dX3_keepAsItIs_114 iw_X3_keepAsItIs_5 (wsC_at29 _ _ _) rfl (by decide) rfl (List.mem_of_getElem? (i := 13) rfl) (fun v19 => ?_)
      refine G.callVi (n := 1) (T := TX4) (N := 8) (C := RX4) (a := h 1) (q0 := 1) (As := [.int v19]) E dX3_keepAsItIs_117 (fun _ hv => c_X4_conductanceOf E.wf hv) gX3_keepAsItIs_X4_conductanceOf rfl rfl rfl (by decide +kernel) ⟨Nat.le_of_ble_eq_true rfl, Nat.le_of_ble_eq_true rfl⟩ (wsC_at1 _ _ _) rfl rfl (Nat.le_of_ble_eq_true rfl) ⟨Nat.le_of_ble_eq_true rfl, Nat.le_of_ble_eq_true rfl⟩ (fun v20 => ?_)
      refine G.iast (q0 := 39) E dX3_keepAsItIs_120 (wsC_at39 _ _ _) (fun j => wsC_set39 _ _ _ _ j) (fun s21 => ?_)
      refine G.aload_n E dX3_keepAsItIs_121 0 rfl rfl ?_
      refine G.dup E dX3_keepAsItIs_122 rfl ?_
      refine G.getI (T := TX3) (N := 10) (C := RX3) (q0 := 28) (i := 9) E dX3_keepAsItIs_123 iw_X3_keepAsItIs_3 (wsC_at28 _ _ _) rfl (by decide) rfl (List.mem_of_getElem? (i := 1) rfl) (fun v22 => ?_)
      refine G.iconst (v := 1) E dX3_keepAsItIs_126 (by decide) ?_
      refine G.iadd E dX3_keepAsItIs_127 ?_
      refine G.putI (T := TX3) (N := 10) (C := RX3) (q0 := 28) (i := 9) (ty := .int) E dX3_keepAsItIs_128 iw_X3_keepAsItIs_3 tyX3 tyX3_ok nmX3 (wsC_at28 _ _ _) rfl (by decide) (List.mem_of_getElem? (i := 1) rfl) rfl (by decide +kernel) rfl rfl (Nat.le_of_ble_eq_true rfl) (wsC_set28_9 _ _ _ _) (fun s23 => ?_)
      refine G.iconst (v := 1) E dX3_keepAsItIs_131 (by decide) ?_
      exact G.zretc E dX3_keepAsItIs_132 rfl rfl rfl
    · refine G.iconst (v := 0) E dX3_keepAsItIs_16 (by decide) ?_
      exact G.zretc E dX3_keepAsItIs_17 rfl rfl rfl
set_option maxHeartbeats 4000000 in
set_option maxRecDepth 100000 in
theorem iw_X3_doIfPossible_3 : ∀ w ∈ u_ws RX3 TX3 10, w ∈ wsX3_doIfPossible := fun _ h => List.mem_cons_of_mem _ (List.mem_append_left _ (List.mem_append_left _ (List.mem_append_right _ h)))
set_option maxHeartbeats 4000000 in
set_option maxRecDepth 100000 in
theorem iw_X3_doIfPossible_5 : ∀ w ∈ u_ws RX5 TX5 10, w ∈ wsX3_doIfPossible := fun _ h => List.mem_cons_of_mem _ (List.mem_append_left _ (List.mem_append_right _ h))
abbrev rm_X3_doIfPossible : Room := { frames := 5, cells := 0, slots := 0, locals := 121 }
noncomputable def f_X3_doIfPossible (N : Nat) (σ : Wd) (a0 : Int32) (a1 : Int32) : Option (Int32 × Wd) :=
  bP (f_X5_begin N σ) fun s1 =>
  jn (fun (s2 : Wd) => ((
    gI s2 29 0 fun v3 =>
    if v3 = 0 then (
      some (0, s2))
    else (
      gI s2 29 5 fun v4 =>
      gI s2 29 6 fun v5 =>
      bP (f_X4_hasRoom N s2 v4 v5) fun v6 =>
      if v6 = 0 then (
        some (0, s2))
      else (
        bS (f_X3_keepAsItIs N s2) fun v7 s8 =>
        if v7 = 0 then (
          some (0, s8))
        else (
          bP (f_X3_carryOut N s8) fun s9 =>
          some (1, s9))))) : Option (Int32 × Wd))) fun j98 =>
  if a0 = 0 then (
    bP (f_X3_planLoop N s1 a1) fun s10 =>
    j98 s10)
  else if a0 = 1 then (
    bP (f_X3_planParallel N s1 a1) fun s11 =>
    j98 s11)
  else if a0 = 2 then (
    bP (f_X3_planSpike N s1 a1) fun s12 =>
    j98 s12)
  else if a0 = 3 then (
    bP (f_X3_planSeries N s1 a1) fun s13 =>
    j98 s13)
  else if a0 = 4 then (
    bP (f_X3_planTriangle N s1 a1) fun s14 =>
    j98 s14)
  else if a0 = 5 then (
    bP (f_X3_planStar N s1 a1) fun s15 =>
    j98 s15)
  else (
    some (0, s1))
set_option maxHeartbeats 4000000 in
set_option maxRecDepth 100000 in
theorem c_X3_doIfPossible {l : Launch} {D : va_G} {cy : Nat → ClassId} {h : Nat → Nat} {N : Nat} {σ : Wd} {a0 : Int32} {a1 : Int32} {r : Int32} {σ1 : Wd} (hW : WF (wsC cy h) (adC h)) (hr : f_X3_doIfPossible N σ a0 a1 = some (r, σ1)) : Con l D cy (wsC cy h) (adC h) yX3_doIfPossible wsX3_doIfPossible rm_X3_doIfPossible 0 0 [.ref (h 28), .int a0, .int a1] (some (.int r)) σ σ1 := by
  refine Con.of (ρ := Int32 × Wd) (lv0 := [(0, .ref (h 28)), (1, .int a0), (2, .int a1)]) (σ := σ) (fun r : Int32 × Wd => some (.int r.1)) (fun r => r.2) (by decide) rfl rfl (Nat.le_of_ble_eq_true rfl) rfl hW hr (fun p e s m args below meth c E => ?_)
  unfold f_X3_doIfPossible
  refine G.aload_n E dX3_doIfPossible_0 0 rfl rfl ?_
  refine G.getR (T := TX3) (N := 10) (C := RX3) (q0 := 28) (i := 1) E dX3_doIfPossible_1 iw_X3_doIfPossible_3 (wsC_at28 _ _ _) rfl (by decide) rfl (List.mem_of_getElem? (i := 1) rfl) ?_
  refine G.callVv (n := 0) (T := TX5) (N := 10) (C := RX5) (a := h 29) (q0 := 29) (As := []) E dX3_doIfPossible_4 (fun _ hv => c_X5_begin E.wf hv) gX3_doIfPossible_X5_begin rfl rfl rfl (by decide +kernel) ⟨Nat.le_of_ble_eq_true rfl, Nat.le_of_ble_eq_true rfl⟩ (wsC_at29 _ _ _) rfl rfl (Nat.le_of_ble_eq_true rfl) ⟨Nat.le_of_ble_eq_true rfl, Nat.le_of_ble_eq_true rfl⟩ (fun s1 => ?_)
  refine G.iload_n E dX3_doIfPossible_7 1 rfl rfl ?_
  refine G.jn (P := fun j => ∀ (s2 : Wd), G p l e (headSpec wsX3_doIfPossible rm_X3_doIfPossible).room s m args below meth c 3 0 0 D (wsC cy h) (adC h) (QM D (wsC cy h) (adC h) below args s 0 0 (fun r : Int32 × Wd => some (.int r.1)) (fun r => r.2)) 98 [(0, .ref (h 28))] [] s2 (j s2)) ?_ (fun j98 hj98 => ?_)
  · intro s2
    refine G.aload_n E dX3_doIfPossible_98 0 rfl rfl ?_
    refine G.getR (T := TX3) (N := 10) (C := RX3) (q0 := 28) (i := 1) E dX3_doIfPossible_99 iw_X3_doIfPossible_3 (wsC_at28 _ _ _) rfl (by decide) rfl (List.mem_of_getElem? (i := 1) rfl) ?_
    refine G.getI (T := TX5) (N := 10) (C := RX5) (q0 := 29) (i := 0) E dX3_doIfPossible_102 iw_X3_doIfPossible_5 (wsC_at29 _ _ _) rfl (by decide) rfl (List.mem_of_getElem? (i := 2) rfl) (fun v3 => ?_)
    refine G.if_eq (tgt := 139) E dX3_doIfPossible_105 (by decide) ?_ ?_
    · refine G.iconst (v := 0) E dX3_doIfPossible_139 (by decide) ?_
      exact G.zretc E dX3_doIfPossible_140 rfl rfl rfl
    · refine G.aload_n E dX3_doIfPossible_108 0 rfl rfl ?_
      refine G.getR (T := TX3) (N := 10) (C := RX3) (q0 := 28) (i := 0) E dX3_doIfPossible_109 iw_X3_doIfPossible_3 (wsC_at28 _ _ _) rfl (by decide) rfl (List.mem_of_getElem? (i := 3) rfl) ?_
      refine G.aload_n E dX3_doIfPossible_112 0 rfl rfl ?_
      refine G.getR (T := TX3) (N := 10) (C := RX3) (q0 := 28) (i := 1) E dX3_doIfPossible_113 iw_X3_doIfPossible_3 (wsC_at28 _ _ _) rfl (by decide) rfl (List.mem_of_getElem? (i := 1) rfl) ?_
      refine G.getI (T := TX5) (N := 10) (C := RX5) (q0 := 29) (i := 5) E dX3_doIfPossible_116 iw_X3_doIfPossible_5 (wsC_at29 _ _ _) rfl (by decide) rfl (List.mem_of_getElem? (i := 4) rfl) (fun v4 => ?_)
      refine G.aload_n E dX3_doIfPossible_119 0 rfl rfl ?_
      refine G.getR (T := TX3) (N := 10) (C := RX3) (q0 := 28) (i := 1) E dX3_doIfPossible_120 iw_X3_doIfPossible_3 (wsC_at28 _ _ _) rfl (by decide) rfl (List.mem_of_getElem? (i := 1) rfl) ?_
      refine G.getI (T := TX5) (N := 10) (C := RX5) (q0 := 29) (i := 6) E dX3_doIfPossible_123 iw_X3_doIfPossible_5 (wsC_at29 _ _ _) rfl (by decide) rfl (List.mem_of_getElem? (i := 5) rfl) (fun v5 => ?_)
      refine G.callVi (n := 2) (T := TX4) (N := 8) (C := RX4) (a := h 1) (q0 := 1) (As := [.int v4, .int v5]) E dX3_doIfPossible_126 (fun _ hv => c_X4_hasRoom E.wf hv) gX3_doIfPossible_X4_hasRoom rfl rfl rfl (by decide +kernel) ⟨Nat.le_of_ble_eq_true rfl, Nat.le_of_ble_eq_true rfl⟩ (wsC_at1 _ _ _) rfl rfl (Nat.le_of_ble_eq_true rfl) ⟨Nat.le_of_ble_eq_true rfl, Nat.le_of_ble_eq_true rfl⟩ (fun v6 => ?_)
      refine G.if_eq (tgt := 139) E dX3_doIfPossible_129 (by decide) ?_ ?_
      · refine G.iconst (v := 0) E dX3_doIfPossible_139 (by decide) ?_
        exact G.zretc E dX3_doIfPossible_140 rfl rfl rfl
      · refine G.aload_n E dX3_doIfPossible_132 0 rfl rfl ?_
        refine G.callVis (n := 0) (T := TX3) (N := 10) (C := RX3) (a := h 28) (q0 := 28) (As := []) E dX3_doIfPossible_133 (fun _ _ hv => c_X3_keepAsItIs E.wf hv) gX3_doIfPossible_X3_keepAsItIs rfl rfl rfl (by decide +kernel) ⟨Nat.le_of_ble_eq_true rfl, Nat.le_of_ble_eq_true rfl⟩ (wsC_at28 _ _ _) rfl rfl (Nat.le_of_ble_eq_true rfl) ⟨Nat.le_of_ble_eq_true rfl, Nat.le_of_ble_eq_true rfl⟩ (fun v7 s8 => ?_)
        refine G.if_ne (tgt := 141) E dX3_doIfPossible_136 (by decide) ?_ ?_
        · refine G.iconst (v := 0) E dX3_doIfPossible_139 (by decide) ?_
          exact G.zretc E dX3_doIfPossible_140 rfl rfl rfl
        · refine G.aload_n E dX3_doIfPossible_141 0 rfl rfl ?_
          refine G.callVv (n := 0) (T := TX3) (N := 10) (C := RX3) (a := h 28) (q0 := 28) (As := []) E dX3_doIfPossible_142 (fun _ hv => c_X3_carryOut E.wf hv) gX3_doIfPossible_X3_carryOut rfl rfl rfl (by decide +kernel) ⟨Nat.le_of_ble_eq_true rfl, Nat.le_of_ble_eq_true rfl⟩ (wsC_at28 _ _ _) rfl rfl (Nat.le_of_ble_eq_true rfl) ⟨Nat.le_of_ble_eq_true rfl, Nat.le_of_ble_eq_true rfl⟩ (fun s9 => ?_)
          refine G.iconst (v := 1) E dX3_doIfPossible_145 (by decide) ?_
          exact G.zretc E dX3_doIfPossible_146 rfl rfl rfl
  · refine G.swIn (c0 := 0) (tgt := 48) E dX3_doIfPossible_8 (by decide) (by decide) rfl (by decide) ?_ (fun n0 => ?_)
    · refine G.aload_n E dX3_doIfPossible_48 0 rfl rfl ?_
      refine G.iload_n E dX3_doIfPossible_49 2 rfl rfl ?_
      refine G.callVv (n := 1) (T := TX3) (N := 10) (C := RX3) (a := h 28) (q0 := 28) (As := [.int a1]) E dX3_doIfPossible_50 (fun _ hv => c_X3_planLoop E.wf hv) gX3_doIfPossible_X3_planLoop rfl rfl rfl (by decide +kernel) ⟨Nat.le_of_ble_eq_true rfl, Nat.le_of_ble_eq_true rfl⟩ (wsC_at28 _ _ _) rfl rfl (Nat.le_of_ble_eq_true rfl) ⟨Nat.le_of_ble_eq_true rfl, Nat.le_of_ble_eq_true rfl⟩ (fun s10 => ?_)
      refine G.goto (tgt := 98) E dX3_doIfPossible_53 (by decide) ?_
      refine G.loc [0] rfl ?_
      exact hj98 s10
    refine G.swIn (c0 := 1) (tgt := 56) E dX3_doIfPossible_8 (by decide) (by decide) rfl (by decide) ?_ (fun n1 => ?_)
    · refine G.aload_n E dX3_doIfPossible_56 0 rfl rfl ?_
      refine G.iload_n E dX3_doIfPossible_57 2 rfl rfl ?_
      refine G.callVv (n := 1) (T := TX3) (N := 10) (C := RX3) (a := h 28) (q0 := 28) (As := [.int a1]) E dX3_doIfPossible_58 (fun _ hv => c_X3_planParallel E.wf hv) gX3_doIfPossible_X3_planParallel rfl rfl rfl (by decide +kernel) ⟨Nat.le_of_ble_eq_true rfl, Nat.le_of_ble_eq_true rfl⟩ (wsC_at28 _ _ _) rfl rfl (Nat.le_of_ble_eq_true rfl) ⟨Nat.le_of_ble_eq_true rfl, Nat.le_of_ble_eq_true rfl⟩ (fun s11 => ?_)
      refine G.goto (tgt := 98) E dX3_doIfPossible_61 (by decide) ?_
      refine G.loc [0] rfl ?_
      exact hj98 s11
    refine G.swIn (c0 := 2) (tgt := 64) E dX3_doIfPossible_8 (by decide) (by decide) rfl (by decide) ?_ (fun n2 => ?_)
    · refine G.aload_n E dX3_doIfPossible_64 0 rfl rfl ?_
      refine G.iload_n E dX3_doIfPossible_65 2 rfl rfl ?_
      refine G.callVv (n := 1) (T := TX3) (N := 10) (C := RX3) (a := h 28) (q0 := 28) (As := [.int a1]) E dX3_doIfPossible_66 (fun _ hv => c_X3_planSpike E.wf hv) gX3_doIfPossible_X3_planSpike rfl rfl rfl (by decide +kernel) ⟨Nat.le_of_ble_eq_true rfl, Nat.le_of_ble_eq_true rfl⟩ (wsC_at28 _ _ _) rfl rfl (Nat.le_of_ble_eq_true rfl) ⟨Nat.le_of_ble_eq_true rfl, Nat.le_of_ble_eq_true rfl⟩ (fun s12 => ?_)
      refine G.goto (tgt := 98) E dX3_doIfPossible_69 (by decide) ?_
      refine G.loc [0] rfl ?_
      exact hj98 s12
    refine G.swIn (c0 := 3) (tgt := 72) E dX3_doIfPossible_8 (by decide) (by decide) rfl (by decide) ?_ (fun n3 => ?_)
    · refine G.aload_n E dX3_doIfPossible_72 0 rfl rfl ?_
      refine G.iload_n E dX3_doIfPossible_73 2 rfl rfl ?_
      refine G.callVv (n := 1) (T := TX3) (N := 10) (C := RX3) (a := h 28) (q0 := 28) (As := [.int a1]) E dX3_doIfPossible_74 (fun _ hv => c_X3_planSeries E.wf hv) gX3_doIfPossible_X3_planSeries rfl rfl rfl (by decide +kernel) ⟨Nat.le_of_ble_eq_true rfl, Nat.le_of_ble_eq_true rfl⟩ (wsC_at28 _ _ _) rfl rfl (Nat.le_of_ble_eq_true rfl) ⟨Nat.le_of_ble_eq_true rfl, Nat.le_of_ble_eq_true rfl⟩ (fun s13 => ?_)
      refine G.goto (tgt := 98) E dX3_doIfPossible_77 (by decide) ?_
      refine G.loc [0] rfl ?_
      exact hj98 s13
    refine G.swIn (c0 := 4) (tgt := 80) E dX3_doIfPossible_8 (by decide) (by decide) rfl (by decide) ?_ (fun n4 => ?_)
    · refine G.aload_n E dX3_doIfPossible_80 0 rfl rfl ?_
      refine G.iload_n E dX3_doIfPossible_81 2 rfl rfl ?_
      refine G.callVv (n := 1) (T := TX3) (N := 10) (C := RX3) (a := h 28) (q0 := 28) (As := [.int a1]) E dX3_doIfPossible_82 (fun _ hv => c_X3_planTriangle E.wf hv) gX3_doIfPossible_X3_planTriangle rfl rfl rfl (by decide +kernel) ⟨Nat.le_of_ble_eq_true rfl, Nat.le_of_ble_eq_true rfl⟩ (wsC_at28 _ _ _) rfl rfl (Nat.le_of_ble_eq_true rfl) ⟨Nat.le_of_ble_eq_true rfl, Nat.le_of_ble_eq_true rfl⟩ (fun s14 => ?_)
      refine G.goto (tgt := 98) E dX3_doIfPossible_85 (by decide) ?_
      refine G.loc [0] rfl ?_
      exact hj98 s14
    refine G.swIn (c0 := 5) (tgt := 88) E dX3_doIfPossible_8 (by decide) (by decide) rfl (by decide) ?_ (fun n5 => ?_)
    · refine G.aload_n E dX3_doIfPossible_88 0 rfl rfl ?_
      refine G.iload_n E dX3_doIfPossible_89 2 rfl rfl ?_
      refine G.callVv (n := 1) (T := TX3) (N := 10) (C := RX3) (a := h 28) (q0 := 28) (As := [.int a1]) E dX3_doIfPossible_90 (fun _ hv => c_X3_planStar E.wf hv) gX3_doIfPossible_X3_planStar rfl rfl rfl (by decide +kernel) ⟨Nat.le_of_ble_eq_true rfl, Nat.le_of_ble_eq_true rfl⟩ (wsC_at28 _ _ _) rfl rfl (Nat.le_of_ble_eq_true rfl) ⟨Nat.le_of_ble_eq_true rfl, Nat.le_of_ble_eq_true rfl⟩ (fun s15 => ?_)
      refine G.goto (tgt := 98) E dX3_doIfPossible_93 (by decide) ?_
      refine G.loc [0] rfl ?_
      exact hj98 s15
    refine G.swOut (tgt := 96) E dX3_doIfPossible_8 (by have := lv_neT (a := 0) n0 (by decide); have := lv_neT (a := 1) n1 (by decide); have := lv_neT (a := 2) n2 (by decide); have := lv_neT (a := 3) n3 (by decide); have := lv_neT (a := 4) n4 (by decide); have := lv_neT (a := 5) n5 (by decide); omega) (by decide) ?_
    refine G.iconst (v := 0) E dX3_doIfPossible_96 (by decide) ?_
    exact G.zretc E dX3_doIfPossible_97 rfl rfl rfl
set_option maxHeartbeats 4000000 in
set_option maxRecDepth 100000 in
theorem iw_X3_doFirstSimple_3 : ∀ w ∈ u_ws RX3 TX3 10, w ∈ wsX3_doFirstSimple := fun _ h => List.mem_cons_of_mem _ (List.mem_append_left _ (List.mem_append_left _ (List.mem_append_right _ h)))
abbrev rm_X3_doFirstSimple : Room := { frames := 6, cells := 0, slots := 0, locals := 143 }
noncomputable def fl_X3_doFirstSimple_9 (N : Nat) (x1 : Int32) (K : Wd → Option (Int32 × Wd)) : Nat → Int32 → Wd → Option (Int32 × Wd)
  | 0, _, _ => none
  | n + 1, x2, s0 =>
    if 20 ≤ x2 then (
      K s0)
    else (
      bP (f_X7_isOfWire N x1) fun v1 =>
      jn (fun (v2 : Int32) => ((
        jn (fun (s3 : Wd) => ((
          fl_X3_doFirstSimple_9 N x1 K n (x2 + 1) s3) : Option (Int32 × Wd))) fun j57 =>
        if v2 = 0 then (
          j57 s0)
        else (
          bS (f_X3_doIfPossible N s0 x1 x2) fun v4 s5 =>
          if v4 = 0 then (
            j57 s5)
          else (
            some (1, s5)))) : Option (Int32 × Wd))) fun j41 =>
      if v1 = 0 then (
        bP (f_X4_hasNode N s0 x2) fun v6 =>
        j41 v6)
      else (
        bP (f_X4_hasWire N s0 x2) fun v7 =>
        j41 v7))
set_option maxHeartbeats 4000000 in
set_option maxRecDepth 100000 in
theorem gl_X3_doFirstSimple_9 {N : Nat} {x1 : Int32} {K : Wd → Option (Int32 × Wd)} (E : EV p s m args meth c cX3_doFirstSimple 4 RX3 wsX3_doFirstSimple (some .boolean) D cy (wsC cy h) (adC h)) (hK : ∀ (s' : Wd), G p l e (headSpec wsX3_doFirstSimple rm_X3_doFirstSimple).room s m args below meth c 4 0 0 D (wsC cy h) (adC h) (QM D (wsC cy h) (adC h) below args s 0 0 (fun r : Int32 × Wd => some (.int r.1)) (fun r => r.2)) 63 [(0, .ref (h 28)), (1, .int x1)] [] s' (K s')) :
  ∀ (n : Nat) (x2 : Int32) (s0 : Wd), G p l e (headSpec wsX3_doFirstSimple rm_X3_doFirstSimple).room s m args below meth c 4 0 0 D (wsC cy h) (adC h) (QM D (wsC cy h) (adC h) below args s 0 0 (fun r : Int32 × Wd => some (.int r.1)) (fun r => r.2)) 9 [(0, .ref (h 28)), (1, .int x1), (2, .int x2)] [] s0 (fl_X3_doFirstSimple_9 N x1 K n x2 s0) := by
  intro n
  induction n with
  | zero => intros; exact G.no
  | succ n ih =>
    intro x2 s0
    rw [fl_X3_doFirstSimple_9]
    refine G.iload_n E dX3_doFirstSimple_9 2 rfl rfl ?_
    refine G.bipush (v := 20) E dX3_doFirstSimple_10 (by decide) ?_
    refine G.icmp_ge (tgt := 63) E dX3_doFirstSimple_12 (by decide) ?_ ?_
    · refine G.loc [0, 1] rfl ?_
      exact hK s0
    · refine G.iload_n E dX3_doFirstSimple_15 1 rfl rfl ?_
      refine G.callNi (n := 1) (As := [.int x1]) E dX3_doFirstSimple_16 (fun _ hv => c_X7_isOfWire E.wf hv) gX3_doFirstSimple_X7_isOfWire_n93 (List.mem_of_getElem? (i := 8) rfl) (List.mem_of_getElem? (i := 3) rfl) (List.mem_of_getElem? (i := 2) rfl) rfl rfl rfl (by decide +kernel) ⟨Nat.le_of_ble_eq_true rfl, Nat.le_of_ble_eq_true rfl⟩ rfl (Nat.le_of_ble_eq_true rfl) ⟨Nat.le_of_ble_eq_true rfl, Nat.le_of_ble_eq_true rfl⟩ (fun v1 => ?_)
      refine G.jn (P := fun j => ∀ (v2 : Int32), G p l e (headSpec wsX3_doFirstSimple rm_X3_doFirstSimple).room s m args below meth c 4 0 0 D (wsC cy h) (adC h) (QM D (wsC cy h) (adC h) below args s 0 0 (fun r : Int32 × Wd => some (.int r.1)) (fun r => r.2)) 41 [(0, .ref (h 28)), (1, .int x1), (2, .int x2)] [.int v2] s0 (j v2)) ?_ (fun j41 hj41 => ?_)
      · intro v2
        refine G.istore_n (lv' := [(3, .int v2), (0, .ref (h 28)), (1, .int x1), (2, .int x2)]) E dX3_doFirstSimple_41 rfl (by decide) rfl ?_
        refine G.iload_n E dX3_doFirstSimple_42 0 rfl rfl ?_
        refine G.jn (P := fun j => ∀ (s3 : Wd), G p l e (headSpec wsX3_doFirstSimple rm_X3_doFirstSimple).room s m args below meth c 4 0 0 D (wsC cy h) (adC h) (QM D (wsC cy h) (adC h) below args s 0 0 (fun r : Int32 × Wd => some (.int r.1)) (fun r => r.2)) 57 [(0, .ref (h 28)), (1, .int x1), (2, .int x2)] [] s3 (j s3)) ?_ (fun j57 hj57 => ?_)
        · intro s3
          refine G.iinc (v := x2 + 1) (lv' := [(2, .int (x2 + 1)), (0, .ref (h 28)), (1, .int x1)]) E dX3_doFirstSimple_57 2 rfl rfl (by decide) rfl ?_
          refine G.goto (tgt := 9) E dX3_doFirstSimple_60 (by decide) ?_
          refine G.loc [1, 2, 0] rfl ?_
          exact ih (x2 + 1) s3
        · refine G.if_eq (tgt := 57) E dX3_doFirstSimple_43 (by decide) ?_ ?_
          · refine G.loc [1, 2, 3] rfl ?_
            exact hj57 s0
          · refine G.aload_n E dX3_doFirstSimple_46 1 rfl rfl ?_
            refine G.iload_n E dX3_doFirstSimple_47 2 rfl rfl ?_
            refine G.iload_n E dX3_doFirstSimple_48 3 rfl rfl ?_
            refine G.callVis (n := 2) (T := TX3) (N := 10) (C := RX3) (a := h 28) (q0 := 28) (As := [.int x1, .int x2]) E dX3_doFirstSimple_49 (fun _ _ hv => c_X3_doIfPossible E.wf hv) gX3_doFirstSimple_X3_doIfPossible rfl rfl rfl (by decide +kernel) ⟨Nat.le_of_ble_eq_true rfl, Nat.le_of_ble_eq_true rfl⟩ (wsC_at28 _ _ _) rfl rfl (Nat.le_of_ble_eq_true rfl) ⟨Nat.le_of_ble_eq_true rfl, Nat.le_of_ble_eq_true rfl⟩ (fun v4 s5 => ?_)
            refine G.if_eq (tgt := 57) E dX3_doFirstSimple_52 (by decide) ?_ ?_
            · refine G.loc [1, 2, 3] rfl ?_
              exact hj57 s5
            · refine G.iconst (v := 1) E dX3_doFirstSimple_55 (by decide) ?_
              exact G.zretc E dX3_doFirstSimple_56 rfl rfl rfl
      · refine G.if_eq (tgt := 33) E dX3_doFirstSimple_19 (by decide) ?_ ?_
        · refine G.aload_n E dX3_doFirstSimple_33 0 rfl rfl ?_
          refine G.getR (T := TX3) (N := 10) (C := RX3) (q0 := 28) (i := 0) E dX3_doFirstSimple_34 iw_X3_doFirstSimple_3 (wsC_at28 _ _ _) rfl (by decide) rfl (List.mem_of_getElem? (i := 1) rfl) ?_
          refine G.iload_n E dX3_doFirstSimple_37 2 rfl rfl ?_
          refine G.callVi (n := 1) (T := TX4) (N := 8) (C := RX4) (a := h 1) (q0 := 1) (As := [.int x2]) E dX3_doFirstSimple_38 (fun _ hv => c_X4_hasNode E.wf hv) gX3_doFirstSimple_X4_hasNode rfl rfl rfl (by decide +kernel) ⟨Nat.le_of_ble_eq_true rfl, Nat.le_of_ble_eq_true rfl⟩ (wsC_at1 _ _ _) rfl rfl (Nat.le_of_ble_eq_true rfl) ⟨Nat.le_of_ble_eq_true rfl, Nat.le_of_ble_eq_true rfl⟩ (fun v6 => ?_)
          refine G.loc [0, 1, 2] rfl ?_
          exact hj41 v6
        · refine G.aload_n E dX3_doFirstSimple_22 0 rfl rfl ?_
          refine G.getR (T := TX3) (N := 10) (C := RX3) (q0 := 28) (i := 0) E dX3_doFirstSimple_23 iw_X3_doFirstSimple_3 (wsC_at28 _ _ _) rfl (by decide) rfl (List.mem_of_getElem? (i := 1) rfl) ?_
          refine G.iload_n E dX3_doFirstSimple_26 2 rfl rfl ?_
          refine G.callVi (n := 1) (T := TX4) (N := 8) (C := RX4) (a := h 1) (q0 := 1) (As := [.int x2]) E dX3_doFirstSimple_27 (fun _ hv => c_X4_hasWire E.wf hv) gX3_doFirstSimple_X4_hasWire rfl rfl rfl (by decide +kernel) ⟨Nat.le_of_ble_eq_true rfl, Nat.le_of_ble_eq_true rfl⟩ (wsC_at1 _ _ _) rfl rfl (Nat.le_of_ble_eq_true rfl) ⟨Nat.le_of_ble_eq_true rfl, Nat.le_of_ble_eq_true rfl⟩ (fun v7 => ?_)
          refine G.goto (tgt := 41) E dX3_doFirstSimple_30 (by decide) ?_
          refine G.loc [0, 1, 2] rfl ?_
          exact hj41 v7
noncomputable def fl_X3_doFirstSimple_2 (N : Nat) (K : Wd → Option (Int32 × Wd)) : Nat → Int32 → Wd → Option (Int32 × Wd)
  | 0, _, _ => none
  | n + 1, x1, s0 =>
    if 3 < x1 then (
      K s0)
    else (
      fl_X3_doFirstSimple_9 N x1 (fun s8 =>
        fl_X3_doFirstSimple_2 N K n (x1 + 1) s8) N 0 s0)
set_option maxHeartbeats 4000000 in
set_option maxRecDepth 100000 in
theorem gl_X3_doFirstSimple_2 {N : Nat} {K : Wd → Option (Int32 × Wd)} (E : EV p s m args meth c cX3_doFirstSimple 4 RX3 wsX3_doFirstSimple (some .boolean) D cy (wsC cy h) (adC h)) (hK : ∀ (s' : Wd), G p l e (headSpec wsX3_doFirstSimple rm_X3_doFirstSimple).room s m args below meth c 4 0 0 D (wsC cy h) (adC h) (QM D (wsC cy h) (adC h) below args s 0 0 (fun r : Int32 × Wd => some (.int r.1)) (fun r => r.2)) 69 [] [] s' (K s')) :
  ∀ (n : Nat) (x1 : Int32) (s0 : Wd), G p l e (headSpec wsX3_doFirstSimple rm_X3_doFirstSimple).room s m args below meth c 4 0 0 D (wsC cy h) (adC h) (QM D (wsC cy h) (adC h) below args s 0 0 (fun r : Int32 × Wd => some (.int r.1)) (fun r => r.2)) 2 [(0, .ref (h 28)), (1, .int x1)] [] s0 (fl_X3_doFirstSimple_2 N K n x1 s0) := by
  intro n
  induction n with
  | zero => intros; exact G.no
  | succ n ih =>
    intro x1 s0
    rw [fl_X3_doFirstSimple_2]
    refine G.iload_n E dX3_doFirstSimple_2 1 rfl rfl ?_
    refine G.iconst (v := 3) E dX3_doFirstSimple_3 (by decide) ?_
    refine G.icmp_gt (tgt := 69) E dX3_doFirstSimple_4 (by decide) ?_ ?_
    · refine G.loc [] rfl ?_
      exact hK s0
    · refine G.iconst (v := 0) E dX3_doFirstSimple_7 (by decide) ?_
      refine G.istore_n (lv' := [(2, .int 0), (0, .ref (h 28)), (1, .int x1)]) E dX3_doFirstSimple_8 rfl (by decide) rfl ?_
      refine G.loc [1, 2, 0] rfl ?_
      refine gl_X3_doFirstSimple_9 E (fun s8 => ?_) N _ _
      refine G.iinc (v := x1 + 1) (lv' := [(1, .int (x1 + 1)), (0, .ref (h 28))]) E dX3_doFirstSimple_63 1 rfl rfl (by decide) rfl ?_
      refine G.goto (tgt := 2) E dX3_doFirstSimple_66 (by decide) ?_
      refine G.loc [1, 0] rfl ?_
      exact ih (x1 + 1) s8
noncomputable def f_X3_doFirstSimple (N : Nat) (σ : Wd) : Option (Int32 × Wd) :=
  fl_X3_doFirstSimple_2 N (fun s9 =>
    some (0, s9)) N 0 σ
set_option maxHeartbeats 4000000 in
set_option maxRecDepth 100000 in
theorem c_X3_doFirstSimple {l : Launch} {D : va_G} {cy : Nat → ClassId} {h : Nat → Nat} {N : Nat} {σ : Wd} {r : Int32} {σ1 : Wd} (hW : WF (wsC cy h) (adC h)) (hr : f_X3_doFirstSimple N σ = some (r, σ1)) : Con l D cy (wsC cy h) (adC h) yX3_doFirstSimple wsX3_doFirstSimple rm_X3_doFirstSimple 0 0 [.ref (h 28)] (some (.int r)) σ σ1 := by
  refine Con.of (ρ := Int32 × Wd) (lv0 := [(0, .ref (h 28))]) (σ := σ) (fun r : Int32 × Wd => some (.int r.1)) (fun r => r.2) (by decide) rfl rfl (Nat.le_of_ble_eq_true rfl) rfl hW hr (fun p e s m args below meth c E => ?_)
  unfold f_X3_doFirstSimple
  refine G.iconst (v := 0) E dX3_doFirstSimple_0 (by decide) ?_
  refine G.istore_n (lv' := [(1, .int 0), (0, .ref (h 28))]) E dX3_doFirstSimple_1 rfl (by decide) rfl ?_
  refine G.loc [1, 0] rfl ?_
  refine gl_X3_doFirstSimple_2 E (fun s9 => ?_) N _ _
  refine G.iconst (v := 0) E dX3_doFirstSimple_69 (by decide) ?_
  exact G.zretc E dX3_doFirstSimple_70 rfl rfl rfl
set_option maxHeartbeats 4000000 in
set_option maxRecDepth 100000 in
theorem iw_X3_forget_3 : ∀ w ∈ u_ws RX3 TX3 10, w ∈ wsX3_forget := fun _ h => List.mem_cons_of_mem _ (List.mem_append_right _ h)
abbrev rm_X3_forget : Room := { frames := 0, cells := 0, slots := 0, locals := 0 }
noncomputable def f_X3_forget (N : Nat) (σ : Wd) : Option (Wd) :=
  wI σ 28 9 0 fun s1 =>
  some s1
set_option maxHeartbeats 4000000 in
set_option maxRecDepth 100000 in
theorem c_X3_forget {l : Launch} {D : va_G} {cy : Nat → ClassId} {h : Nat → Nat} {N : Nat} {σ : Wd} {σ1 : Wd} (hW : WF (wsC cy h) (adC h)) (hr : f_X3_forget N σ = some σ1) : Con l D cy (wsC cy h) (adC h) yX3_forget wsX3_forget rm_X3_forget 0 0 [.ref (h 28)] (none) σ σ1 := by
  refine Con.of (ρ := Wd) (lv0 := [(0, .ref (h 28))]) (σ := σ) (fun _ : Wd => none) (fun r => r) (by decide) rfl rfl (Nat.le_of_ble_eq_true rfl) rfl hW hr (fun p e s m args below meth c E => ?_)
  unfold f_X3_forget
  refine G.aload_n E dX3_forget_0 0 rfl rfl ?_
  refine G.iconst (v := 0) E dX3_forget_1 (by decide) ?_
  refine G.putI (T := TX3) (N := 10) (C := RX3) (q0 := 28) (i := 9) (ty := .int) E dX3_forget_2 iw_X3_forget_3 tyX3 tyX3_ok nmX3 (wsC_at28 _ _ _) rfl (by decide) (List.mem_of_getElem? (i := 1) rfl) rfl (by decide +kernel) rfl rfl (Nat.le_of_ble_eq_true rfl) (wsC_set28_9 _ _ _ _) (fun s1 => ?_)
  exact G.vret E dX3_forget_5 rfl rfl
set_option maxHeartbeats 4000000 in
set_option maxRecDepth 100000 in
theorem iw_X3_howMany_3 : ∀ w ∈ u_ws RX3 TX3 10, w ∈ wsX3_howMany := fun _ h => List.mem_cons_of_mem _ (List.mem_append_right _ h)
abbrev rm_X3_howMany : Room := { frames := 0, cells := 0, slots := 0, locals := 0 }
noncomputable def f_X3_howMany (N : Nat) (σ : Wd) : Option (Int32) :=
  gI σ 28 9 fun v1 =>
  some v1
set_option maxHeartbeats 4000000 in
set_option maxRecDepth 100000 in
theorem c_X3_howMany {l : Launch} {D : va_G} {cy : Nat → ClassId} {h : Nat → Nat} {N : Nat} {σ : Wd} {r : Int32} (hW : WF (wsC cy h) (adC h)) (hr : f_X3_howMany N σ = some r) : Con l D cy (wsC cy h) (adC h) yX3_howMany wsX3_howMany rm_X3_howMany 0 0 [.ref (h 28)] (some (.int r)) σ σ := by
  refine Con.of (ρ := Int32) (lv0 := [(0, .ref (h 28))]) (σ := σ) (fun r : Int32 => some (.int r)) (fun _ => σ) (by decide) rfl rfl (Nat.le_of_ble_eq_true rfl) rfl hW hr (fun p e s m args below meth c E => ?_)
  unfold f_X3_howMany
  refine G.aload_n E dX3_howMany_0 0 rfl rfl ?_
  refine G.getI (T := TX3) (N := 10) (C := RX3) (q0 := 28) (i := 9) E dX3_howMany_1 iw_X3_howMany_3 (wsC_at28 _ _ _) rfl (by decide) rfl (List.mem_of_getElem? (i := 1) rfl) (fun v1 => ?_)
  exact G.iret E dX3_howMany_4 rfl rfl
set_option maxHeartbeats 4000000 in
set_option maxRecDepth 100000 in
theorem iw_X3_takeBack_3 : ∀ w ∈ u_ws RX3 TX3 10, w ∈ wsX3_takeBack := fun _ h => List.mem_cons_of_mem _ (List.mem_append_left _ (List.mem_append_right _ h))
set_option maxHeartbeats 4000000 in
set_option maxRecDepth 100000 in
theorem iw_X3_takeBack_4 : ∀ w ∈ u_ws RX4 TX4 8, w ∈ wsX3_takeBack := fun _ h => List.mem_cons_of_mem _ (List.mem_append_right _ h)
abbrev rm_X3_takeBack : Room := { frames := 1, cells := 0, slots := 0, locals := 22 }
noncomputable def f_X3_takeBack (N : Nat) (σ : Wd) : Option (Wd) :=
  gI σ 28 9 fun v1 =>
  if v1 ≤ 0 then (
    some σ)
  else (
    gI σ 28 9 fun v2 =>
    if v2 ≤ 20 then (
      gI σ 28 9 fun v3 =>
      wI σ 28 9 (v3 - 1) fun s4 =>
      gI s4 28 9 fun v5 =>
      rI s4 34 20 v5 fun v6 =>
      wI s4 1 0 v6 fun s7 =>
      gI s7 28 9 fun v8 =>
      rI s7 35 20 v8 fun v9 =>
      wI s7 1 2 v9 fun s10 =>
      gI s10 28 9 fun v11 =>
      rI s10 36 20 v11 fun v12 =>
      wI s10 1 3 v12 fun s13 =>
      gI s13 28 9 fun v14 =>
      rI s13 37 20 v14 fun v15 =>
      wI s13 1 4 v15 fun s16 =>
      gI s16 28 9 fun v17 =>
      rI s16 38 20 v17 fun v18 =>
      gI s16 28 9 fun v19 =>
      rI s16 39 20 v19 fun v20 =>
      bP (f_X4_setConductance N s16 v18 v20) fun s21 =>
      some s21)
    else (
      some σ))
set_option maxHeartbeats 4000000 in
set_option maxRecDepth 100000 in
theorem c_X3_takeBack {l : Launch} {D : va_G} {cy : Nat → ClassId} {h : Nat → Nat} {N : Nat} {σ : Wd} {σ1 : Wd} (hW : WF (wsC cy h) (adC h)) (hr : f_X3_takeBack N σ = some σ1) : Con l D cy (wsC cy h) (adC h) yX3_takeBack wsX3_takeBack rm_X3_takeBack 0 0 [.ref (h 28)] (none) σ σ1 := by
  refine Con.of (ρ := Wd) (lv0 := [(0, .ref (h 28))]) (σ := σ) (fun _ : Wd => none) (fun r => r) (by decide) rfl rfl (Nat.le_of_ble_eq_true rfl) rfl hW hr (fun p e s m args below meth c E => ?_)
  unfold f_X3_takeBack
  refine G.aload_n E dX3_takeBack_0 0 rfl rfl ?_
  refine G.getI (T := TX3) (N := 10) (C := RX3) (q0 := 28) (i := 9) E dX3_takeBack_1 iw_X3_takeBack_3 (wsC_at28 _ _ _) rfl (by decide) rfl (List.mem_of_getElem? (i := 1) rfl) (fun v1 => ?_)
  refine G.if_le (tgt := 16) E dX3_takeBack_4 (by decide) ?_ ?_
  · exact G.vret E dX3_takeBack_16 rfl rfl
  · refine G.aload_n E dX3_takeBack_7 0 rfl rfl ?_
    refine G.getI (T := TX3) (N := 10) (C := RX3) (q0 := 28) (i := 9) E dX3_takeBack_8 iw_X3_takeBack_3 (wsC_at28 _ _ _) rfl (by decide) rfl (List.mem_of_getElem? (i := 1) rfl) (fun v2 => ?_)
    refine G.bipush (v := 20) E dX3_takeBack_11 (by decide) ?_
    refine G.icmp_le (tgt := 17) E dX3_takeBack_13 (by decide) ?_ ?_
    · refine G.aload_n E dX3_takeBack_17 0 rfl rfl ?_
      refine G.dup E dX3_takeBack_18 rfl ?_
      refine G.getI (T := TX3) (N := 10) (C := RX3) (q0 := 28) (i := 9) E dX3_takeBack_19 iw_X3_takeBack_3 (wsC_at28 _ _ _) rfl (by decide) rfl (List.mem_of_getElem? (i := 1) rfl) (fun v3 => ?_)
      refine G.iconst (v := 1) E dX3_takeBack_22 (by decide) ?_
      refine G.isub E dX3_takeBack_23 ?_
      refine G.putI (T := TX3) (N := 10) (C := RX3) (q0 := 28) (i := 9) (ty := .int) E dX3_takeBack_24 iw_X3_takeBack_3 tyX3 tyX3_ok nmX3 (wsC_at28 _ _ _) rfl (by decide) (List.mem_of_getElem? (i := 1) rfl) rfl (by decide +kernel) rfl rfl (Nat.le_of_ble_eq_true rfl) (wsC_set28_9 _ _ _ _) (fun s4 => ?_)
      refine G.aload_n E dX3_takeBack_27 0 rfl rfl ?_
      refine G.getR (T := TX3) (N := 10) (C := RX3) (q0 := 28) (i := 0) E dX3_takeBack_28 iw_X3_takeBack_3 (wsC_at28 _ _ _) rfl (by decide) rfl (List.mem_of_getElem? (i := 2) rfl) ?_
      refine G.aload_n E dX3_takeBack_31 0 rfl rfl ?_
      refine G.getR (T := TX3) (N := 10) (C := RX3) (q0 := 28) (i := 3) E dX3_takeBack_32 iw_X3_takeBack_3 (wsC_at28 _ _ _) rfl (by decide) rfl (List.mem_of_getElem? (i := 3) rfl) ?_
      refine G.aload_n E dX3_takeBack_35 0 rfl rfl ?_
      refine G.getI (T := TX3) (N := 10) (C := RX3) (q0 := 28) (i := 9) E dX3_takeBack_36 iw_X3_takeBack_3 (wsC_at28 _ _ _) rfl (by decide) rfl (List.mem_of_getElem? (i := 1) rfl) (fun v5 => ?_)
      refine G.iald (q0 := 34) E dX3_takeBack_39 (wsC_at34 _ _ _) (fun v6 => ?_)
      refine G.putI (T := TX4) (N := 8) (C := RX4) (q0 := 1) (i := 0) (ty := .int) E dX3_takeBack_40 iw_X3_takeBack_4 tyX4 tyX4_ok nmX4 (wsC_at1 _ _ _) rfl (by decide) (List.mem_of_getElem? (i := 4) rfl) rfl (by decide +kernel) rfl rfl (Nat.le_of_ble_eq_true rfl) (wsC_set1_0 _ _ _ _) (fun s7 => ?_)
      refine G.aload_n E dX3_takeBack_43 0 rfl rfl ?_
      refine G.getR (T := TX3) (N := 10) (C := RX3) (q0 := 28) (i := 0) E dX3_takeBack_44 iw_X3_takeBack_3 (wsC_at28 _ _ _) rfl (by decide) rfl (List.mem_of_getElem? (i := 2) rfl) ?_
      refine G.aload_n E dX3_takeBack_47 0 rfl rfl ?_
      refine G.getR (T := TX3) (N := 10) (C := RX3) (q0 := 28) (i := 4) E dX3_takeBack_48 iw_X3_takeBack_3 (wsC_at28 _ _ _) rfl (by decide) rfl (List.mem_of_getElem? (i := 5) rfl) ?_
      refine G.aload_n E dX3_takeBack_51 0 rfl rfl ?_
      refine G.getI (T := TX3) (N := 10) (C := RX3) (q0 := 28) (i := 9) E dX3_takeBack_52 iw_X3_takeBack_3 (wsC_at28 _ _ _) rfl (by decide) rfl (List.mem_of_getElem? (i := 1) rfl) (fun v8 => ?_)
      refine G.iald (q0 := 35) E dX3_takeBack_55 (wsC_at35 _ _ _) (fun v9 => ?_)
      refine G.putI (T := TX4) (N := 8) (C := RX4) (q0 := 1) (i := 2) (ty := .int) E dX3_takeBack_56 iw_X3_takeBack_4 tyX4 tyX4_ok nmX4 (wsC_at1 _ _ _) rfl (by decide) (List.mem_of_getElem? (i := 6) rfl) rfl (by decide +kernel) rfl rfl (Nat.le_of_ble_eq_true rfl) (wsC_set1_2 _ _ _ _) (fun s10 => ?_)
      refine G.aload_n E dX3_takeBack_59 0 rfl rfl ?_
      refine G.getR (T := TX3) (N := 10) (C := RX3) (q0 := 28) (i := 0) E dX3_takeBack_60 iw_X3_takeBack_3 (wsC_at28 _ _ _) rfl (by decide) rfl (List.mem_of_getElem? (i := 2) rfl) ?_
      refine G.aload_n E dX3_takeBack_63 0 rfl rfl ?_
      refine G.getR (T := TX3) (N := 10) (C := RX3) (q0 := 28) (i := 5) E dX3_takeBack_64 iw_X3_takeBack_3 (wsC_at28 _ _ _) rfl (by decide) rfl (List.mem_of_getElem? (i := 7) rfl) ?_
      refine G.aload_n E dX3_takeBack_67 0 rfl rfl ?_
      refine G.getI (T := TX3) (N := 10) (C := RX3) (q0 := 28) (i := 9) E dX3_takeBack_68 iw_X3_takeBack_3 (wsC_at28 _ _ _) rfl (by decide) rfl (List.mem_of_getElem? (i := 1) rfl) (fun v11 => ?_)
      refine G.iald (q0 := 36) E dX3_takeBack_71 (wsC_at36 _ _ _) (fun v12 => ?_)
      refine G.putI (T := TX4) (N := 8) (C := RX4) (q0 := 1) (i := 3) (ty := .int) E dX3_takeBack_72 iw_X3_takeBack_4 tyX4 tyX4_ok nmX4 (wsC_at1 _ _ _) rfl (by decide) (List.mem_of_getElem? (i := 8) rfl) rfl (by decide +kernel) rfl rfl (Nat.le_of_ble_eq_true rfl) (wsC_set1_3 _ _ _ _) (fun s13 => ?_)
      refine G.aload_n E dX3_takeBack_75 0 rfl rfl ?_
      refine G.getR (T := TX3) (N := 10) (C := RX3) (q0 := 28) (i := 0) E dX3_takeBack_76 iw_X3_takeBack_3 (wsC_at28 _ _ _) rfl (by decide) rfl (List.mem_of_getElem? (i := 2) rfl) ?_
      refine G.aload_n E dX3_takeBack_79 0 rfl rfl ?_
      refine G.getR (T := TX3) (N := 10) (C := RX3) (q0 := 28) (i := 6) E dX3_takeBack_80 iw_X3_takeBack_3 (wsC_at28 _ _ _) rfl (by decide) rfl (List.mem_of_getElem? (i := 9) rfl) ?_
      refine G.aload_n E dX3_takeBack_83 0 rfl rfl ?_
      refine G.getI (T := TX3) (N := 10) (C := RX3) (q0 := 28) (i := 9) E dX3_takeBack_84 iw_X3_takeBack_3 (wsC_at28 _ _ _) rfl (by decide) rfl (List.mem_of_getElem? (i := 1) rfl) (fun v14 => ?_)
      refine G.iald (q0 := 37) E dX3_takeBack_87 (wsC_at37 _ _ _) (fun v15 => ?_)
      refine G.putI (T := TX4) (N := 8) (C := RX4) (q0 := 1) (i := 4) (ty := .int) E dX3_takeBack_88 iw_X3_takeBack_4 tyX4 tyX4_ok nmX4 (wsC_at1 _ _ _) rfl (by decide) (List.mem_of_getElem? (i := 10) rfl) rfl (by decide +kernel) rfl rfl (Nat.le_of_ble_eq_true rfl) (wsC_set1_4 _ _ _ _) (fun s16 => ?_)
      refine G.aload_n E dX3_takeBack_91 0 rfl rfl ?_
      refine G.getR (T := TX3) (N := 10) (C := RX3) (q0 := 28) (i := 0) E dX3_takeBack_92 iw_X3_takeBack_3 (wsC_at28 _ _ _) rfl (by decide) rfl (List.mem_of_getElem? (i := 2) rfl) ?_
      refine G.aload_n E dX3_takeBack_95 0 rfl rfl ?_
      refine G.getR (T := TX3) (N := 10) (C := RX3) (q0 := 28) (i := 7) E dX3_takeBack_96 iw_X3_takeBack_3 (wsC_at28 _ _ _) rfl (by decide) rfl (List.mem_of_getElem? (i := 11) rfl) ?_
      refine G.aload_n E dX3_takeBack_99 0 rfl rfl ?_
      refine G.getI (T := TX3) (N := 10) (C := RX3) (q0 := 28) (i := 9) E dX3_takeBack_100 iw_X3_takeBack_3 (wsC_at28 _ _ _) rfl (by decide) rfl (List.mem_of_getElem? (i := 1) rfl) (fun v17 => ?_)
      refine G.iald (q0 := 38) E dX3_takeBack_103 (wsC_at38 _ _ _) (fun v18 => ?_)
      refine G.aload_n E dX3_takeBack_104 0 rfl rfl ?_
      refine G.getR (T := TX3) (N := 10) (C := RX3) (q0 := 28) (i := 8) E dX3_takeBack_105 iw_X3_takeBack_3 (wsC_at28 _ _ _) rfl (by decide) rfl (List.mem_of_getElem? (i := 12) rfl) ?_
      refine G.aload_n E dX3_takeBack_108 0 rfl rfl ?_
      refine G.getI (T := TX3) (N := 10) (C := RX3) (q0 := 28) (i := 9) E dX3_takeBack_109 iw_X3_takeBack_3 (wsC_at28 _ _ _) rfl (by decide) rfl (List.mem_of_getElem? (i := 1) rfl) (fun v19 => ?_)
      refine G.iald (q0 := 39) E dX3_takeBack_112 (wsC_at39 _ _ _) (fun v20 => ?_)
      refine G.callVv (n := 2) (T := TX4) (N := 8) (C := RX4) (a := h 1) (q0 := 1) (As := [.int v18, .int v20]) E dX3_takeBack_113 (fun _ hv => c_X4_setConductance E.wf hv) gX3_takeBack_X4_setConductance rfl rfl rfl (by decide +kernel) ⟨Nat.le_of_ble_eq_true rfl, Nat.le_of_ble_eq_true rfl⟩ (wsC_at1 _ _ _) rfl rfl (Nat.le_of_ble_eq_true rfl) ⟨Nat.le_of_ble_eq_true rfl, Nat.le_of_ble_eq_true rfl⟩ (fun s21 => ?_)
      exact G.vret E dX3_takeBack_116 rfl rfl
    · exact G.vret E dX3_takeBack_16 rfl rfl
set_option maxHeartbeats 4000000 in
set_option maxRecDepth 100000 in
theorem iw_X7_needEdge_7 : ∀ w ∈ u_ws RX7 TX7 7, w ∈ wsX7_needEdge := fun _ h => List.mem_cons_of_mem _ (List.mem_append_left _ (List.mem_append_left _ (List.mem_append_right _ h)))
set_option maxHeartbeats 4000000 in
set_option maxRecDepth 100000 in
theorem ia_X7_needEdge_187 : ∀ w ∈ (vx_atS RX7 187 "java/lang/IndexOutOfBoundsException" ["java/lang/RuntimeException", "java/lang/Exception"]).filter goodWord, w ∈ wsX7_needEdge := fun w h => List.mem_cons_of_mem _ (List.mem_append_right _ h)
abbrev rm_X7_needEdge : Room := { frames := 8, cells := 1, slots := 6, locals := 120 }
noncomputable def f_X7_needEdge (N : Nat) (σ : Wd) (a0 : Int32) : Option ((Nat ⊕ Unit) × Wd) :=
  bP (f_X4_hasEdge N σ a0) fun v1 =>
  if v1 = 0 then (
    some (.inl 1, σ))
  else (
    some (.inr (), σ))
set_option maxHeartbeats 4000000 in
set_option maxRecDepth 100000 in
theorem c_X7_needEdge {l : Launch} {D : va_G} {cy : Nat → ClassId} {h : Nat → Nat} {N : Nat} {σ : Wd} {a0 : Int32} {r : (Nat ⊕ Unit) × Wd} (hW : WF (wsC cy h) (adC h)) (hfl : l.stackTraces = false) (hr : f_X7_needEdge N σ a0 = some r) : ConX l D cy (wsC cy h) (adC h) yX7_needEdge wsX7_needEdge rm_X7_needEdge 1 6 [.ref (h 0), .int a0] (ooV r) σ r.2 := by
  refine ConX.of (lv0 := [(0, .ref (h 0)), (1, .int a0)]) (σ := σ) ooV (fun r => r.2) (by decide) rfl rfl (Nat.le_of_ble_eq_true rfl) rfl hW hfl hr (fun p e s m args below meth c E EX0 => ?_)
  unfold f_X7_needEdge
  refine G.aload_n E dX7_needEdge_0 0 rfl rfl ?_
  refine G.getR (T := TX7) (N := 7) (C := RX7) (q0 := 0) (i := 0) E dX7_needEdge_1 iw_X7_needEdge_7 (wsC_at0 _ _ _) rfl (by decide) rfl (List.mem_of_getElem? (i := 3) rfl) ?_
  refine G.iload_n E dX7_needEdge_4 1 rfl rfl ?_
  refine G.callVi (n := 1) (T := TX4) (N := 8) (C := RX4) (a := h 1) (q0 := 1) (As := [.int a0]) E dX7_needEdge_5 (fun _ hv => c_X4_hasEdge E.wf hv) gX7_needEdge_X4_hasEdge rfl rfl rfl (by decide +kernel) ⟨Nat.le_of_ble_eq_true rfl, Nat.le_of_ble_eq_true rfl⟩ (wsC_at1 _ _ _) rfl rfl (Nat.le_of_ble_eq_true rfl) ⟨Nat.le_of_ble_eq_true rfl, Nat.le_of_ble_eq_true rfl⟩ (fun v1 => ?_)
  refine G.if_ne (tgt := 21) E dX7_needEdge_8 (by decide) ?_ ?_
  · exact G.throwS (q := 1) (text := "there is no such edge") (cls := "java/lang/IndexOutOfBoundsException") (names := ["java/lang/RuntimeException", "java/lang/Exception"]) E EX0 (by decide +kernel) (by decide +kernel) (List.mem_of_getElem? (i := 1) rfl) (List.mem_of_getElem? (i := 2) rfl) (by decide +kernel) ia_X7_needEdge_187 atg_187 (otw_183_187) dX7_needEdge_11 dX7_needEdge_14 dX7_needEdge_15 dX7_needEdge_17 dX7_needEdge_20 ⟨Nat.le_of_ble_eq_true rfl, Nat.le_of_ble_eq_true rfl⟩ ⟨Nat.le_of_ble_eq_true rfl, Nat.le_of_ble_eq_true rfl⟩ rfl rfl rfl (Nat.le_of_ble_eq_true rfl) (Nat.le_of_ble_eq_true rfl)
  · exact G.x_vret E dX7_needEdge_21 rfl (Nat.le_of_ble_eq_true rfl) (Nat.le_of_ble_eq_true rfl) rfl rfl
set_option maxHeartbeats 4000000 in
set_option maxRecDepth 100000 in
theorem iw_X7_upperOfAnswer_4 : ∀ w ∈ u_ws RX4 TX4 8, w ∈ wsX7_upperOfAnswer := fun _ h => List.mem_cons_of_mem _ (List.mem_append_left _ (List.mem_append_right _ h))
set_option maxHeartbeats 4000000 in
set_option maxRecDepth 100000 in
theorem iw_X7_upperOfAnswer_7 : ∀ w ∈ u_ws RX7 TX7 7, w ∈ wsX7_upperOfAnswer := fun _ h => List.mem_cons_of_mem _ (List.mem_append_left _ (List.mem_append_left _ (List.mem_append_right _ h)))
abbrev rm_X7_upperOfAnswer : Room := { frames := 14, cells := 0, slots := 0, locals := 358 }
noncomputable def f_X7_upperOfAnswer (N : Nat) (σ : Wd) (a0 : Int32) (a1 : Int32) : Option (Int64 × Wd) :=
  gI σ 1 1 fun v1 =>
  bP (f_X7_setOf N a0) fun v2 =>
  bS (f_X0_countWith N σ (v1 &&& (v2 ^^^ (-1))) a0 a1) fun v3 s4 =>
  some (v3, s4)
set_option maxHeartbeats 4000000 in
set_option maxRecDepth 100000 in
theorem c_X7_upperOfAnswer {l : Launch} {D : va_G} {cy : Nat → ClassId} {h : Nat → Nat} {N : Nat} {σ : Wd} {a0 : Int32} {a1 : Int32} {r : Int64} {σ1 : Wd} (hW : WF (wsC cy h) (adC h)) (hr : f_X7_upperOfAnswer N σ a0 a1 = some (r, σ1)) : Con l D cy (wsC cy h) (adC h) yX7_upperOfAnswer wsX7_upperOfAnswer rm_X7_upperOfAnswer 0 0 [.ref (h 0), .int a0, .int a1] (some (.long r)) σ σ1 := by
  refine Con.of (ρ := Int64 × Wd) (lv0 := [(0, .ref (h 0)), (1, .int a0), (2, .int a1)]) (σ := σ) (fun r : Int64 × Wd => some (.long r.1)) (fun r => r.2) (by decide) rfl rfl (Nat.le_of_ble_eq_true rfl) rfl hW hr (fun p e s m args below meth c E => ?_)
  unfold f_X7_upperOfAnswer
  refine G.aload_n E dX7_upperOfAnswer_0 0 rfl rfl ?_
  refine G.getR (T := TX7) (N := 7) (C := RX7) (q0 := 0) (i := 1) E dX7_upperOfAnswer_1 iw_X7_upperOfAnswer_7 (wsC_at0 _ _ _) rfl (by decide) rfl (List.mem_of_getElem? (i := 1) rfl) ?_
  refine G.aload_n E dX7_upperOfAnswer_4 0 rfl rfl ?_
  refine G.getR (T := TX7) (N := 7) (C := RX7) (q0 := 0) (i := 0) E dX7_upperOfAnswer_5 iw_X7_upperOfAnswer_7 (wsC_at0 _ _ _) rfl (by decide) rfl (List.mem_of_getElem? (i := 2) rfl) ?_
  refine G.getI (T := TX4) (N := 8) (C := RX4) (q0 := 1) (i := 1) E dX7_upperOfAnswer_8 iw_X7_upperOfAnswer_4 (wsC_at1 _ _ _) rfl (by decide) rfl (List.mem_of_getElem? (i := 3) rfl) (fun v1 => ?_)
  refine G.iload_n E dX7_upperOfAnswer_11 1 rfl rfl ?_
  refine G.callSi (n := 1) (As := [.int a0]) E dX7_upperOfAnswer_12 (fun _ hv => c_X7_setOf E.wf hv) gX7_upperOfAnswer_X7_setOf rfl rfl rfl (by decide +kernel) ⟨Nat.le_of_ble_eq_true rfl, Nat.le_of_ble_eq_true rfl⟩ rfl (Nat.le_of_ble_eq_true rfl) ⟨Nat.le_of_ble_eq_true rfl, Nat.le_of_ble_eq_true rfl⟩ (fun v2 => ?_)
  refine G.iconst (v := (-1)) E dX7_upperOfAnswer_15 (by decide) ?_
  refine G.ixor E dX7_upperOfAnswer_16 ?_
  refine G.iand E dX7_upperOfAnswer_17 ?_
  refine G.iload_n E dX7_upperOfAnswer_18 1 rfl rfl ?_
  refine G.iload_n E dX7_upperOfAnswer_19 2 rfl rfl ?_
  refine G.callVls (n := 3) (T := TX0) (N := 9) (C := RX0) (a := h 5) (q0 := 5) (As := [.int (v1 &&& (v2 ^^^ (-1))), .int a0, .int a1]) E dX7_upperOfAnswer_20 (fun _ _ hv => c_X0_countWith E.wf hv) gX7_upperOfAnswer_X0_countWith rfl rfl rfl (by decide +kernel) ⟨Nat.le_of_ble_eq_true rfl, Nat.le_of_ble_eq_true rfl⟩ (wsC_at5 _ _ _) rfl rfl (Nat.le_of_ble_eq_true rfl) ⟨Nat.le_of_ble_eq_true rfl, Nat.le_of_ble_eq_true rfl⟩ (fun v3 s4 => ?_)
  exact G.lret E dX7_upperOfAnswer_23 rfl rfl
set_option maxHeartbeats 4000000 in
set_option maxRecDepth 100000 in
theorem iw_X7_countRest_4 : ∀ w ∈ u_ws RX4 TX4 8, w ∈ wsX7_countRest := fun _ h => List.mem_cons_of_mem _ (List.mem_append_left _ (List.mem_append_right _ h))
set_option maxHeartbeats 4000000 in
set_option maxRecDepth 100000 in
theorem iw_X7_countRest_7 : ∀ w ∈ u_ws RX7 TX7 7, w ∈ wsX7_countRest := fun _ h => List.mem_cons_of_mem _ (List.mem_append_left _ (List.mem_append_left _ (List.mem_append_right _ h)))
abbrev rm_X7_countRest : Room := { frames := 15, cells := 0, slots := 0, locals := 379 }
noncomputable def f_X7_countRest (N : Nat) (σ : Wd) : Option (Int64 × Wd) :=
  gI σ 1 1 fun v1 =>
  bS (f_X0_count N σ v1) fun v2 s3 =>
  some (v2, s3)
set_option maxHeartbeats 4000000 in
set_option maxRecDepth 100000 in
theorem c_X7_countRest {l : Launch} {D : va_G} {cy : Nat → ClassId} {h : Nat → Nat} {N : Nat} {σ : Wd} {r : Int64} {σ1 : Wd} (hW : WF (wsC cy h) (adC h)) (hr : f_X7_countRest N σ = some (r, σ1)) : Con l D cy (wsC cy h) (adC h) yX7_countRest wsX7_countRest rm_X7_countRest 0 0 [.ref (h 0)] (some (.long r)) σ σ1 := by
  refine Con.of (ρ := Int64 × Wd) (lv0 := [(0, .ref (h 0))]) (σ := σ) (fun r : Int64 × Wd => some (.long r.1)) (fun r => r.2) (by decide) rfl rfl (Nat.le_of_ble_eq_true rfl) rfl hW hr (fun p e s m args below meth c E => ?_)
  unfold f_X7_countRest
  refine G.aload_n E dX7_countRest_0 0 rfl rfl ?_
  refine G.getR (T := TX7) (N := 7) (C := RX7) (q0 := 0) (i := 1) E dX7_countRest_1 iw_X7_countRest_7 (wsC_at0 _ _ _) rfl (by decide) rfl (List.mem_of_getElem? (i := 1) rfl) ?_
  refine G.aload_n E dX7_countRest_4 0 rfl rfl ?_
  refine G.getR (T := TX7) (N := 7) (C := RX7) (q0 := 0) (i := 0) E dX7_countRest_5 iw_X7_countRest_7 (wsC_at0 _ _ _) rfl (by decide) rfl (List.mem_of_getElem? (i := 2) rfl) ?_
  refine G.getI (T := TX4) (N := 8) (C := RX4) (q0 := 1) (i := 1) E dX7_countRest_8 iw_X7_countRest_4 (wsC_at1 _ _ _) rfl (by decide) rfl (List.mem_of_getElem? (i := 3) rfl) (fun v1 => ?_)
  refine G.callVls (n := 1) (T := TX0) (N := 9) (C := RX0) (a := h 5) (q0 := 5) (As := [.int v1]) E dX7_countRest_11 (fun _ _ hv => c_X0_count E.wf hv) gX7_countRest_X0_count rfl rfl rfl (by decide +kernel) ⟨Nat.le_of_ble_eq_true rfl, Nat.le_of_ble_eq_true rfl⟩ (wsC_at5 _ _ _) rfl rfl (Nat.le_of_ble_eq_true rfl) ⟨Nat.le_of_ble_eq_true rfl, Nat.le_of_ble_eq_true rfl⟩ (fun v2 s3 => ?_)
  exact G.lret E dX7_countRest_14 rfl rfl
end TR
