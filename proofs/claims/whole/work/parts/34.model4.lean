section TR
variable {p : Program} {l : Launch} {e : Env} {s : State} {m : MethodId} {args : Array Value} {below : List Frame} {meth : Method} {c : Code} {D : va_G} {cy : Nat → ClassId} {h : Nat → Nat}

set_option maxHeartbeats 4000000 in
set_option maxRecDepth 100000 in
theorem iw_X8_mark_8 : ∀ w ∈ u_ws RX8 TX8 21, w ∈ wsX8_mark := fun _ h => List.mem_cons_of_mem _ (List.mem_append_right _ h)
abbrev rm_X8_mark : Room := { frames := 5, cells := 0, slots := 0, locals := 122 }
noncomputable def fl_X8_mark_43 {ρ : Type} (N : Nat) (x1 : Int64) (x3 : Int32) (K : Wd → Option ρ) : Nat → Int32 → Wd → Option ρ
  | 0, _, _ => none
  | n + 1, x4, s0 =>
    if x3 ≤ x4 then (
      K s0)
    else (
      gI s0 0 15 fun v8 =>
      bP (f_X8_isIn N v8 x3) fun v9 =>
      jn (fun (s10 : Wd) => ((
        fl_X8_mark_43 N x1 x3 K n (x4 + 1) s10) : Option (ρ))) fun j121 =>
      if v9 = 0 then (
        j121 s0)
      else (
        gI s0 0 15 fun v11 =>
        bP (f_X8_isIn N v11 x4) fun v12 =>
        if v12 = 0 then (
          j121 s0)
        else (
          bS (f_X8_counts N s0 2 x3 x4 0) fun v13 s14 =>
          bP (f_X8_part N v13 x1 0) fun v15 =>
          aL s14 8 49 ((7 * x3) + x4) v15 fun s16 =>
          bP (f_X8_part N v13 x1 1) fun v17 =>
          aL s16 9 49 ((7 * x3) + x4) v17 fun s18 =>
          j121 s18)))
set_option maxHeartbeats 4000000 in
set_option maxRecDepth 100000 in
theorem gl_X8_mark_43 {ρ : Type} {Q : ρ → State → Prop} {N : Nat} {x1 : Int64} {x3 : Int32} {K : Wd → Option ρ} (E : EV p s m args meth c cX8_mark 7 RX8 wsX8_mark none D cy (wsM cy h) (adM h)) (hK : ∀ (s' : Wd), G p l e (headSpec wsX8_mark rm_X8_mark).room s m args below meth c 7 0 0 D (wsM cy h) (adM h) Q 127 [(0, .ref (h 0)), (1, .long x1), (3, .int x3)] [] s' (K s')) :
  ∀ (n : Nat) (x4 : Int32) (s0 : Wd), G p l e (headSpec wsX8_mark rm_X8_mark).room s m args below meth c 7 0 0 D (wsM cy h) (adM h) Q 43 [(0, .ref (h 0)), (1, .long x1), (3, .int x3), (4, .int x4)] [] s0 (fl_X8_mark_43 N x1 x3 K n x4 s0) := by
  intro n
  induction n with
  | zero => intros; exact G.no
  | succ n ih =>
    intro x4 s0
    rw [fl_X8_mark_43]
    refine G.iload E dX8_mark_43 3 rfl ?_
    refine G.iload_n E dX8_mark_45 2 rfl rfl ?_
    refine G.icmp_ge (tgt := 127) E dX8_mark_46 (by decide) ?_ ?_
    · refine G.loc [0, 1, 2] rfl ?_
      exact hK s0
    · refine G.aload_n E dX8_mark_49 0 rfl rfl ?_
      refine G.getI (T := TX8) (N := 21) (C := RX8) (q0 := 0) (i := 15) E dX8_mark_50 iw_X8_mark_8 (wsM_at0 _ _ _) rfl (by decide) rfl (List.mem_of_getElem? (i := 5) rfl) (fun v8 => ?_)
      refine G.iload_n E dX8_mark_53 2 rfl rfl ?_
      refine G.callSi (n := 2) (As := [.int v8, .int x3]) E dX8_mark_54 (fun _ hv => c_X8_isIn E.wf hv) gX8_mark_X8_isIn rfl rfl rfl (by decide +kernel) ⟨Nat.le_of_ble_eq_true rfl, Nat.le_of_ble_eq_true rfl⟩ rfl (Nat.le_of_ble_eq_true rfl) ⟨Nat.le_of_ble_eq_true rfl, Nat.le_of_ble_eq_true rfl⟩ (fun v9 => ?_)
      refine G.jn (P := fun j => ∀ (s10 : Wd), G p l e (headSpec wsX8_mark rm_X8_mark).room s m args below meth c 7 0 0 D (wsM cy h) (adM h) Q 121 [(0, .ref (h 0)), (1, .long x1), (3, .int x3), (4, .int x4)] [] s10 (j s10)) ?_ (fun j121 hj121 => ?_)
      · intro s10
        refine G.iinc (v := x4 + 1) (lv' := [(4, .int (x4 + 1)), (0, .ref (h 0)), (1, .long x1), (3, .int x3)]) E dX8_mark_121 3 rfl rfl (by decide) rfl ?_
        refine G.goto (tgt := 43) E dX8_mark_124 (by decide) ?_
        refine G.loc [1, 2, 3, 0] rfl ?_
        exact ih (x4 + 1) s10
      · refine G.if_eq (tgt := 121) E dX8_mark_57 (by decide) ?_ ?_
        · refine G.loc [0, 1, 2, 3] rfl ?_
          exact hj121 s0
        · refine G.aload_n E dX8_mark_60 0 rfl rfl ?_
          refine G.getI (T := TX8) (N := 21) (C := RX8) (q0 := 0) (i := 15) E dX8_mark_61 iw_X8_mark_8 (wsM_at0 _ _ _) rfl (by decide) rfl (List.mem_of_getElem? (i := 5) rfl) (fun v11 => ?_)
          refine G.iload E dX8_mark_64 3 rfl ?_
          refine G.callSi (n := 2) (As := [.int v11, .int x4]) E dX8_mark_66 (fun _ hv => c_X8_isIn E.wf hv) gX8_mark_X8_isIn rfl rfl rfl (by decide +kernel) ⟨Nat.le_of_ble_eq_true rfl, Nat.le_of_ble_eq_true rfl⟩ rfl (Nat.le_of_ble_eq_true rfl) ⟨Nat.le_of_ble_eq_true rfl, Nat.le_of_ble_eq_true rfl⟩ (fun v12 => ?_)
          refine G.if_eq (tgt := 121) E dX8_mark_69 (by decide) ?_ ?_
          · refine G.loc [0, 1, 2, 3] rfl ?_
            exact hj121 s0
          · refine G.aload_n E dX8_mark_72 0 rfl rfl ?_
            refine G.iconst (v := 2) E dX8_mark_73 (by decide) ?_
            refine G.iload_n E dX8_mark_74 2 rfl rfl ?_
            refine G.iload E dX8_mark_75 3 rfl ?_
            refine G.iconst (v := 0) E dX8_mark_77 (by decide) ?_
            refine G.callVls (n := 4) (T := TX8) (N := 21) (C := RX8) (a := h 0) (q0 := 0) (As := [.int 2, .int x3, .int x4, .int 0]) E dX8_mark_78 (fun _ _ hv => c_X8_counts E.wf hv) gX8_mark_X8_counts rfl rfl rfl (by decide +kernel) ⟨Nat.le_of_ble_eq_true rfl, Nat.le_of_ble_eq_true rfl⟩ (wsM_at0 _ _ _) rfl rfl (Nat.le_of_ble_eq_true rfl) ⟨Nat.le_of_ble_eq_true rfl, Nat.le_of_ble_eq_true rfl⟩ (fun v13 s14 => ?_)
            refine G.lstore (lv' := [(5, .long v13), (0, .ref (h 0)), (1, .long x1), (3, .int x3), (4, .int x4)]) E dX8_mark_81 (by decide) rfl ?_
            refine G.aload_n E dX8_mark_83 1 rfl rfl ?_
            refine G.getR (T := TX8) (N := 21) (C := RX8) (q0 := 0) (i := 16) E dX8_mark_84 iw_X8_mark_8 (wsM_at0 _ _ _) rfl (by decide) rfl (List.mem_of_getElem? (i := 6) rfl) ?_
            refine G.bipush (v := 7) E dX8_mark_87 (by decide) ?_
            refine G.iload_n E dX8_mark_89 3 rfl rfl ?_
            refine G.imul E dX8_mark_90 ?_
            refine G.iload E dX8_mark_91 4 rfl ?_
            refine G.iadd E dX8_mark_93 ?_
            refine G.lload E dX8_mark_94 0 rfl ?_
            refine G.lload_n E dX8_mark_96 2 rfl rfl ?_
            refine G.iconst (v := 0) E dX8_mark_97 (by decide) ?_
            refine G.callSl (n := 3) (As := [.long v13, .long x1, .int 0]) E dX8_mark_98 (fun _ hv => c_X8_part E.wf hv) gX8_mark_X8_part rfl rfl rfl (by decide +kernel) ⟨Nat.le_of_ble_eq_true rfl, Nat.le_of_ble_eq_true rfl⟩ rfl (Nat.le_of_ble_eq_true rfl) ⟨Nat.le_of_ble_eq_true rfl, Nat.le_of_ble_eq_true rfl⟩ (fun v15 => ?_)
            refine G.last (q0 := 8) E dX8_mark_101 (wsM_at8 _ _ _) (fun j => wsM_set8 _ _ _ _ j) (fun s16 => ?_)
            refine G.aload_n E dX8_mark_102 1 rfl rfl ?_
            refine G.getR (T := TX8) (N := 21) (C := RX8) (q0 := 0) (i := 17) E dX8_mark_103 iw_X8_mark_8 (wsM_at0 _ _ _) rfl (by decide) rfl (List.mem_of_getElem? (i := 7) rfl) ?_
            refine G.bipush (v := 7) E dX8_mark_106 (by decide) ?_
            refine G.iload_n E dX8_mark_108 3 rfl rfl ?_
            refine G.imul E dX8_mark_109 ?_
            refine G.iload E dX8_mark_110 4 rfl ?_
            refine G.iadd E dX8_mark_112 ?_
            refine G.lload E dX8_mark_113 0 rfl ?_
            refine G.lload_n E dX8_mark_115 2 rfl rfl ?_
            refine G.iconst (v := 1) E dX8_mark_116 (by decide) ?_
            refine G.callSl (n := 3) (As := [.long v13, .long x1, .int 1]) E dX8_mark_117 (fun _ hv => c_X8_part E.wf hv) gX8_mark_X8_part rfl rfl rfl (by decide +kernel) ⟨Nat.le_of_ble_eq_true rfl, Nat.le_of_ble_eq_true rfl⟩ rfl (Nat.le_of_ble_eq_true rfl) ⟨Nat.le_of_ble_eq_true rfl, Nat.le_of_ble_eq_true rfl⟩ (fun v17 => ?_)
            refine G.last (q0 := 9) E dX8_mark_120 (wsM_at9 _ _ _) (fun j => wsM_set9 _ _ _ _ j) (fun s18 => ?_)
            refine G.loc [1, 2, 3, 4] rfl ?_
            exact hj121 s18
noncomputable def fl_X8_mark_34 {ρ : Type} (N : Nat) (x1 : Int64) (K : Wd → Option ρ) : Nat → Int32 → Wd → Option ρ
  | 0, _, _ => none
  | n + 1, x3, s0 =>
    if 7 ≤ x3 then (
      K s0)
    else (
      fl_X8_mark_43 N x1 x3 (fun s19 =>
        fl_X8_mark_34 N x1 K n (x3 + 1) s19) N 0 s0)
set_option maxHeartbeats 4000000 in
set_option maxRecDepth 100000 in
theorem gl_X8_mark_34 {ρ : Type} {Q : ρ → State → Prop} {N : Nat} {x1 : Int64} {K : Wd → Option ρ} (E : EV p s m args meth c cX8_mark 7 RX8 wsX8_mark none D cy (wsM cy h) (adM h)) (hK : ∀ (s' : Wd), G p l e (headSpec wsX8_mark rm_X8_mark).room s m args below meth c 7 0 0 D (wsM cy h) (adM h) Q 133 [] [] s' (K s')) :
  ∀ (n : Nat) (x3 : Int32) (s0 : Wd), G p l e (headSpec wsX8_mark rm_X8_mark).room s m args below meth c 7 0 0 D (wsM cy h) (adM h) Q 34 [(0, .ref (h 0)), (1, .long x1), (3, .int x3)] [] s0 (fl_X8_mark_34 N x1 K n x3 s0) := by
  intro n
  induction n with
  | zero => intros; exact G.no
  | succ n ih =>
    intro x3 s0
    rw [fl_X8_mark_34]
    refine G.iload_n E dX8_mark_34 2 rfl rfl ?_
    refine G.bipush (v := 7) E dX8_mark_35 (by decide) ?_
    refine G.icmp_ge (tgt := 133) E dX8_mark_37 (by decide) ?_ ?_
    · refine G.loc [] rfl ?_
      exact hK s0
    · refine G.iconst (v := 0) E dX8_mark_40 (by decide) ?_
      refine G.istore (lv' := [(4, .int 0), (0, .ref (h 0)), (1, .long x1), (3, .int x3)]) E dX8_mark_41 (by decide) rfl ?_
      refine G.loc [1, 2, 3, 0] rfl ?_
      refine gl_X8_mark_43 E (fun s19 => ?_) N _ _
      refine G.iinc (v := x3 + 1) (lv' := [(3, .int (x3 + 1)), (0, .ref (h 0)), (1, .long x1)]) E dX8_mark_127 2 rfl rfl (by decide) rfl ?_
      refine G.goto (tgt := 34) E dX8_mark_130 (by decide) ?_
      refine G.loc [1, 2, 0] rfl ?_
      exact ih (x3 + 1) s19
noncomputable def f_X8_mark (N : Nat) (σ : Wd) : Option (Wd) :=
  wI σ 0 0 0 fun s1 =>
  zb 1 (wI s1 0 14 1 fun s2 =>
  gI s2 0 3 fun v3 =>
  gI s2 0 2 fun v4 =>
  wI s2 0 15 (v3 &&& v4) fun s5 =>
  bS (f_X8_counts N s5 1 0 0 0) fun v6 s7 =>
  fl_X8_mark_34 N v6 (fun s20 =>
    some s20) N 0 s7)
set_option maxHeartbeats 4000000 in
set_option maxRecDepth 100000 in
theorem c_X8_mark {l : Launch} {D : va_G} {cy : Nat → ClassId} {h : Nat → Nat} {N : Nat} {σ : Wd} {σ1 : Wd} (hW : WF (wsM cy h) (adM h)) (hr : f_X8_mark N σ = some σ1) : Con l D cy (wsM cy h) (adM h) yX8_mark wsX8_mark rm_X8_mark 0 0 [.ref (h 0)] (none) σ σ1 := by
  refine Con.of (ρ := Wd) (lv0 := [(0, .ref (h 0))]) (σ := σ) (fun _ : Wd => none) (fun r => r) (by decide) rfl rfl (Nat.le_of_ble_eq_true rfl) rfl hW hr (fun p e s m args below meth c E => ?_)
  unfold f_X8_mark
  refine G.aload_n E dX8_mark_0 0 rfl rfl ?_
  refine G.iconst (v := 0) E dX8_mark_1 (by decide) ?_
  refine G.putI (T := TX8) (N := 21) (C := RX8) (q0 := 0) (i := 0) (ty := .int) E dX8_mark_2 iw_X8_mark_8 tyX8 tyX8_ok nmX8 (wsM_at0 _ _ _) rfl (by decide) (List.mem_of_getElem? (i := 1) rfl) rfl (by decide +kernel) rfl rfl (Nat.le_of_ble_eq_true rfl) (wsM_set0_0 _ _ _ _) (fun s1 => ?_)
  refine G.aload_n E dX8_mark_5 0 rfl rfl ?_
  refine G.iconst (v := 1) E dX8_mark_6 (by decide) ?_
  refine G.putZ (T := TX8) (N := 21) (C := RX8) (q0 := 0) (i := 14) E dX8_mark_7 iw_X8_mark_8 tyX8 tyX8_ok nmX8 (wsM_at0 _ _ _) rfl (by decide) (List.mem_of_getElem? (i := 2) rfl) rfl (by decide +kernel) (Nat.le_of_ble_eq_true rfl) (wsM_set0_14 _ _ _ _) (fun s2 => ?_)
  refine G.aload_n E dX8_mark_10 0 rfl rfl ?_
  refine G.aload_n E dX8_mark_11 0 rfl rfl ?_
  refine G.getI (T := TX8) (N := 21) (C := RX8) (q0 := 0) (i := 3) E dX8_mark_12 iw_X8_mark_8 (wsM_at0 _ _ _) rfl (by decide) rfl (List.mem_of_getElem? (i := 3) rfl) (fun v3 => ?_)
  refine G.aload_n E dX8_mark_15 0 rfl rfl ?_
  refine G.getI (T := TX8) (N := 21) (C := RX8) (q0 := 0) (i := 2) E dX8_mark_16 iw_X8_mark_8 (wsM_at0 _ _ _) rfl (by decide) rfl (List.mem_of_getElem? (i := 4) rfl) (fun v4 => ?_)
  refine G.iand E dX8_mark_19 ?_
  refine G.putI (T := TX8) (N := 21) (C := RX8) (q0 := 0) (i := 15) (ty := .int) E dX8_mark_20 iw_X8_mark_8 tyX8 tyX8_ok nmX8 (wsM_at0 _ _ _) rfl (by decide) (List.mem_of_getElem? (i := 5) rfl) rfl (by decide +kernel) rfl rfl (Nat.le_of_ble_eq_true rfl) (wsM_set0_15 _ _ _ _) (fun s5 => ?_)
  refine G.aload_n E dX8_mark_23 0 rfl rfl ?_
  refine G.iconst (v := 1) E dX8_mark_24 (by decide) ?_
  refine G.iconst (v := 0) E dX8_mark_25 (by decide) ?_
  refine G.iconst (v := 0) E dX8_mark_26 (by decide) ?_
  refine G.iconst (v := 0) E dX8_mark_27 (by decide) ?_
  refine G.callVls (n := 4) (T := TX8) (N := 21) (C := RX8) (a := h 0) (q0 := 0) (As := [.int 1, .int 0, .int 0, .int 0]) E dX8_mark_28 (fun _ _ hv => c_X8_counts E.wf hv) gX8_mark_X8_counts rfl rfl rfl (by decide +kernel) ⟨Nat.le_of_ble_eq_true rfl, Nat.le_of_ble_eq_true rfl⟩ (wsM_at0 _ _ _) rfl rfl (Nat.le_of_ble_eq_true rfl) ⟨Nat.le_of_ble_eq_true rfl, Nat.le_of_ble_eq_true rfl⟩ (fun v6 s7 => ?_)
  refine G.lstore_n (lv' := [(1, .long v6), (0, .ref (h 0))]) E dX8_mark_31 rfl (by decide) rfl ?_
  refine G.iconst (v := 0) E dX8_mark_32 (by decide) ?_
  refine G.istore_n (lv' := [(3, .int 0), (1, .long v6), (0, .ref (h 0))]) E dX8_mark_33 rfl (by decide) rfl ?_
  refine G.loc [2, 1, 0] rfl ?_
  refine gl_X8_mark_34 E (fun s20 => ?_) N _ _
  exact G.vret E dX8_mark_133 rfl rfl
set_option maxHeartbeats 4000000 in
set_option maxRecDepth 100000 in
theorem iw_X8_move_8 : ∀ w ∈ u_ws RX8 TX8 21, w ∈ wsX8_move := fun _ h => List.mem_cons_of_mem _ (List.mem_append_right _ h)
abbrev rm_X8_move : Room := { frames := 5, cells := 0, slots := 0, locals := 117 }
noncomputable def f_X8_move (N : Nat) (σ : Wd) (a0 : Int32) (a1 : Int32) : Option (Wd) :=
  bP (f_X8_in N a0 0 5) fun v1 =>
  jn (fun (v2 : Int32) => ((
    wI σ 0 0 v2 fun s3 =>
    gI s3 0 0 fun v4 =>
    jn (fun (s5 : Wd) => ((
      gI s5 0 0 fun v6 =>
      if v6 = 0 then (
        bP (f_X8_does N s5 a0 a1) fun s7 =>
        some s7)
      else (
        some s5)) : Option (Wd))) fun j75 =>
    if v4 = 0 then (
      bS (f_X8_isPossible N s3 a0 a1) fun v8 s9 =>
      jn (fun (v10 : Int32) => ((
        wI s9 0 0 v10 fun s11 =>
        j75 s11) : Option (Wd))) fun j72 =>
      if v8 = 0 then (
        j72 3)
      else (
        j72 0))
    else (
      j75 s3)) : Option (Wd))) fun j47 =>
  if v1 = 0 then (
    j47 2)
  else (
    bP (f_X8_isOfWire N a0) fun v12 =>
    jn (fun (_u : Unit) => ((
      j47 1) : Option (Wd))) fun j46 =>
    jn (fun (_u : Unit) => ((
      j47 0) : Option (Wd))) fun j42 =>
    if v12 = 0 then (
      bP (f_X8_isNode N σ a1) fun v13 =>
      if v13 = 0 then (
        j46 ())
      else (
        j42 ()))
    else (
      bP (f_X8_isWire N σ a1) fun v14 =>
      if v14 = 0 then (
        j46 ())
      else (
        j42 ())))
set_option maxHeartbeats 4000000 in
set_option maxRecDepth 100000 in
theorem c_X8_move {l : Launch} {D : va_G} {cy : Nat → ClassId} {h : Nat → Nat} {N : Nat} {σ : Wd} {a0 : Int32} {a1 : Int32} {σ1 : Wd} (hW : WF (wsM cy h) (adM h)) (hr : f_X8_move N σ a0 a1 = some σ1) : Con l D cy (wsM cy h) (adM h) yX8_move wsX8_move rm_X8_move 0 0 [.ref (h 0), .int a0, .int a1] (none) σ σ1 := by
  refine Con.of (ρ := Wd) (lv0 := [(0, .ref (h 0)), (1, .int a0), (2, .int a1)]) (σ := σ) (fun _ : Wd => none) (fun r => r) (by decide) rfl rfl (Nat.le_of_ble_eq_true rfl) rfl hW hr (fun p e s m args below meth c E => ?_)
  unfold f_X8_move
  refine G.iload_n E dX8_move_0 1 rfl rfl ?_
  refine G.iconst (v := 0) E dX8_move_1 (by decide) ?_
  refine G.iconst (v := 5) E dX8_move_2 (by decide) ?_
  refine G.callSi (n := 3) (As := [.int a0, .int 0, .int 5]) E dX8_move_3 (fun _ hv => c_X8_in E.wf hv) gX8_move_X8_in rfl rfl rfl (by decide +kernel) ⟨Nat.le_of_ble_eq_true rfl, Nat.le_of_ble_eq_true rfl⟩ rfl (Nat.le_of_ble_eq_true rfl) ⟨Nat.le_of_ble_eq_true rfl, Nat.le_of_ble_eq_true rfl⟩ (fun v1 => ?_)
  refine G.istore_n (lv' := [(3, .int v1), (0, .ref (h 0)), (1, .int a0), (2, .int a1)]) E dX8_move_6 rfl (by decide) rfl ?_
  refine G.aload_n E dX8_move_7 1 rfl rfl ?_
  refine G.iload_n E dX8_move_8 0 rfl rfl ?_
  refine G.jn (P := fun j => ∀ (v2 : Int32), G p l e (headSpec wsX8_move rm_X8_move).room s m args below meth c 4 0 0 D (wsM cy h) (adM h) (QM D (wsM cy h) (adM h) below args s 0 0 (fun _ : Wd => none) (fun r => r)) 47 [(0, .ref (h 0)), (1, .int a0), (2, .int a1)] [.int v2, .ref (h 0)] σ (j v2)) ?_ (fun j47 hj47 => ?_)
  · intro v2
    refine G.putI (T := TX8) (N := 21) (C := RX8) (q0 := 0) (i := 0) (ty := .int) E dX8_move_47 iw_X8_move_8 tyX8 tyX8_ok nmX8 (wsM_at0 _ _ _) rfl (by decide) (List.mem_of_getElem? (i := 1) rfl) rfl (by decide +kernel) rfl rfl (Nat.le_of_ble_eq_true rfl) (wsM_set0_0 _ _ _ _) (fun s3 => ?_)
    refine G.aload_n E dX8_move_50 0 rfl rfl ?_
    refine G.getI (T := TX8) (N := 21) (C := RX8) (q0 := 0) (i := 0) E dX8_move_51 iw_X8_move_8 (wsM_at0 _ _ _) rfl (by decide) rfl (List.mem_of_getElem? (i := 1) rfl) (fun v4 => ?_)
    refine G.jn (P := fun j => ∀ (s5 : Wd), G p l e (headSpec wsX8_move rm_X8_move).room s m args below meth c 4 0 0 D (wsM cy h) (adM h) (QM D (wsM cy h) (adM h) below args s 0 0 (fun _ : Wd => none) (fun r => r)) 75 [(0, .ref (h 0)), (1, .int a0), (2, .int a1)] [] s5 (j s5)) ?_ (fun j75 hj75 => ?_)
    · intro s5
      refine G.aload_n E dX8_move_75 0 rfl rfl ?_
      refine G.getI (T := TX8) (N := 21) (C := RX8) (q0 := 0) (i := 0) E dX8_move_76 iw_X8_move_8 (wsM_at0 _ _ _) rfl (by decide) rfl (List.mem_of_getElem? (i := 1) rfl) (fun v6 => ?_)
      refine G.if_ne (tgt := 88) E dX8_move_79 (by decide) ?_ ?_
      · refine G.aload_n E dX8_move_82 0 rfl rfl ?_
        refine G.iload_n E dX8_move_83 1 rfl rfl ?_
        refine G.iload_n E dX8_move_84 2 rfl rfl ?_
        refine G.callVv (n := 2) (T := TX8) (N := 21) (C := RX8) (a := h 0) (q0 := 0) (As := [.int a0, .int a1]) E dX8_move_85 (fun _ hv => c_X8_does E.wf hv) gX8_move_X8_does rfl rfl rfl (by decide +kernel) ⟨Nat.le_of_ble_eq_true rfl, Nat.le_of_ble_eq_true rfl⟩ (wsM_at0 _ _ _) rfl rfl (Nat.le_of_ble_eq_true rfl) ⟨Nat.le_of_ble_eq_true rfl, Nat.le_of_ble_eq_true rfl⟩ (fun s7 => ?_)
        exact G.vret E dX8_move_88 rfl rfl
      · exact G.vret E dX8_move_88 rfl rfl
    · refine G.if_ne (tgt := 75) E dX8_move_54 (by decide) ?_ ?_
      · refine G.aload_n E dX8_move_57 0 rfl rfl ?_
        refine G.aload_n E dX8_move_58 0 rfl rfl ?_
        refine G.iload_n E dX8_move_59 1 rfl rfl ?_
        refine G.iload_n E dX8_move_60 2 rfl rfl ?_
        refine G.callVis (n := 2) (T := TX8) (N := 21) (C := RX8) (a := h 0) (q0 := 0) (As := [.int a0, .int a1]) E dX8_move_61 (fun _ _ hv => c_X8_isPossible E.wf hv) gX8_move_X8_isPossible rfl rfl rfl (by decide +kernel) ⟨Nat.le_of_ble_eq_true rfl, Nat.le_of_ble_eq_true rfl⟩ (wsM_at0 _ _ _) rfl rfl (Nat.le_of_ble_eq_true rfl) ⟨Nat.le_of_ble_eq_true rfl, Nat.le_of_ble_eq_true rfl⟩ (fun v8 s9 => ?_)
        refine G.jn (P := fun j => ∀ (v10 : Int32), G p l e (headSpec wsX8_move rm_X8_move).room s m args below meth c 4 0 0 D (wsM cy h) (adM h) (QM D (wsM cy h) (adM h) below args s 0 0 (fun _ : Wd => none) (fun r => r)) 72 [(0, .ref (h 0)), (1, .int a0), (2, .int a1)] [.int v10, .ref (h 0)] s9 (j v10)) ?_ (fun j72 hj72 => ?_)
        · intro v10
          refine G.putI (T := TX8) (N := 21) (C := RX8) (q0 := 0) (i := 0) (ty := .int) E dX8_move_72 iw_X8_move_8 tyX8 tyX8_ok nmX8 (wsM_at0 _ _ _) rfl (by decide) (List.mem_of_getElem? (i := 1) rfl) rfl (by decide +kernel) rfl rfl (Nat.le_of_ble_eq_true rfl) (wsM_set0_0 _ _ _ _) (fun s11 => ?_)
          refine G.loc [0, 1, 2] rfl ?_
          exact hj75 s11
        · refine G.if_eq (tgt := 71) E dX8_move_64 (by decide) ?_ ?_
          · refine G.iconst (v := 3) E dX8_move_71 (by decide) ?_
            refine G.loc [0, 1, 2] rfl ?_
            exact hj72 3
          · refine G.iconst (v := 0) E dX8_move_67 (by decide) ?_
            refine G.goto (tgt := 72) E dX8_move_68 (by decide) ?_
            refine G.loc [0, 1, 2] rfl ?_
            exact hj72 0
      · refine G.loc [0, 1, 2] rfl ?_
        exact hj75 s3
  · refine G.if_ne (tgt := 16) E dX8_move_9 (by decide) ?_ ?_
    · refine G.iconst (v := 2) E dX8_move_12 (by decide) ?_
      refine G.goto (tgt := 47) E dX8_move_13 (by decide) ?_
      refine G.loc [1, 2, 3] rfl ?_
      exact hj47 2
    · refine G.iload_n E dX8_move_16 2 rfl rfl ?_
      refine G.callSi (n := 1) (As := [.int a0]) E dX8_move_17 (fun _ hv => c_X8_isOfWire E.wf hv) gX8_move_X8_isOfWire rfl rfl rfl (by decide +kernel) ⟨Nat.le_of_ble_eq_true rfl, Nat.le_of_ble_eq_true rfl⟩ rfl (Nat.le_of_ble_eq_true rfl) ⟨Nat.le_of_ble_eq_true rfl, Nat.le_of_ble_eq_true rfl⟩ (fun v12 => ?_)
      refine G.jn (P := fun j => ∀ (_u : Unit), G p l e (headSpec wsX8_move rm_X8_move).room s m args below meth c 4 0 0 D (wsM cy h) (adM h) (QM D (wsM cy h) (adM h) below args s 0 0 (fun _ : Wd => none) (fun r => r)) 46 [(0, .ref (h 0)), (1, .int a0), (2, .int a1)] [.ref (h 0)] σ (j _u)) ?_ (fun j46 hj46 => ?_)
      · intro _u
        refine G.iconst (v := 1) E dX8_move_46 (by decide) ?_
        refine G.loc [0, 1, 2] rfl ?_
        exact hj47 1
      · refine G.jn (P := fun j => ∀ (_u : Unit), G p l e (headSpec wsX8_move rm_X8_move).room s m args below meth c 4 0 0 D (wsM cy h) (adM h) (QM D (wsM cy h) (adM h) below args s 0 0 (fun _ : Wd => none) (fun r => r)) 42 [(0, .ref (h 0)), (1, .int a0), (2, .int a1)] [.ref (h 0)] σ (j _u)) ?_ (fun j42 hj42 => ?_)
        · intro _u
          refine G.iconst (v := 0) E dX8_move_42 (by decide) ?_
          refine G.goto (tgt := 47) E dX8_move_43 (by decide) ?_
          refine G.loc [0, 1, 2] rfl ?_
          exact hj47 0
        · refine G.if_eq (tgt := 34) E dX8_move_20 (by decide) ?_ ?_
          · refine G.aload_n E dX8_move_34 1 rfl rfl ?_
            refine G.iload_n E dX8_move_35 3 rfl rfl ?_
            refine G.callVi (n := 1) (T := TX8) (N := 21) (C := RX8) (a := h 0) (q0 := 0) (As := [.int a1]) E dX8_move_36 (fun _ hv => c_X8_isNode E.wf hv) gX8_move_X8_isNode rfl rfl rfl (by decide +kernel) ⟨Nat.le_of_ble_eq_true rfl, Nat.le_of_ble_eq_true rfl⟩ (wsM_at0 _ _ _) rfl rfl (Nat.le_of_ble_eq_true rfl) ⟨Nat.le_of_ble_eq_true rfl, Nat.le_of_ble_eq_true rfl⟩ (fun v13 => ?_)
            refine G.if_eq (tgt := 46) E dX8_move_39 (by decide) ?_ ?_
            · refine G.loc [1, 2, 3] rfl ?_
              exact hj46 ()
            · refine G.loc [1, 2, 3] rfl ?_
              exact hj42 ()
          · refine G.aload_n E dX8_move_23 1 rfl rfl ?_
            refine G.iload_n E dX8_move_24 3 rfl rfl ?_
            refine G.callVi (n := 1) (T := TX8) (N := 21) (C := RX8) (a := h 0) (q0 := 0) (As := [.int a1]) E dX8_move_25 (fun _ hv => c_X8_isWire E.wf hv) gX8_move_X8_isWire rfl rfl rfl (by decide +kernel) ⟨Nat.le_of_ble_eq_true rfl, Nat.le_of_ble_eq_true rfl⟩ (wsM_at0 _ _ _) rfl rfl (Nat.le_of_ble_eq_true rfl) ⟨Nat.le_of_ble_eq_true rfl, Nat.le_of_ble_eq_true rfl⟩ (fun v14 => ?_)
            refine G.if_eq (tgt := 46) E dX8_move_28 (by decide) ?_ ?_
            · refine G.loc [1, 2, 3] rfl ?_
              exact hj46 ()
            · refine G.goto (tgt := 42) E dX8_move_31 (by decide) ?_
              refine G.loc [1, 2, 3] rfl ?_
              exact hj42 ()
set_option maxHeartbeats 4000000 in
set_option maxRecDepth 100000 in
theorem iw_X8_node_8 : ∀ w ∈ u_ws RX8 TX8 21, w ∈ wsX8_node := fun _ h => List.mem_cons_of_mem _ (List.mem_append_right _ h)
abbrev rm_X8_node : Room := { frames := 1, cells := 0, slots := 0, locals := 22 }
noncomputable def f_X8_node (N : Nat) (σ : Wd) (a0 : Int32) : Option (Int32 × Wd) :=
  gI σ 0 1 fun v1 =>
  jn (fun (v2 : Int32) => ((
    wI σ 0 0 v2 fun s3 =>
    gI s3 0 0 fun v4 =>
    if v4 ≤ 0 then (
      wI s3 0 10 0 fun s5 =>
      bS (f_X8_addsNode N s5 a0) fun v6 s7 =>
      some (v6, s7))
    else (
      some (0, s3))) : Option (Int32 × Wd))) fun j15 =>
  if v1 = 7 then (
    j15 1)
  else (
    j15 0)
set_option maxHeartbeats 4000000 in
set_option maxRecDepth 100000 in
theorem c_X8_node {l : Launch} {D : va_G} {cy : Nat → ClassId} {h : Nat → Nat} {N : Nat} {σ : Wd} {a0 : Int32} {r : Int32} {σ1 : Wd} (hW : WF (wsM cy h) (adM h)) (hr : f_X8_node N σ a0 = some (r, σ1)) : Con l D cy (wsM cy h) (adM h) yX8_node wsX8_node rm_X8_node 0 0 [.ref (h 0), .int a0] (some (.int r)) σ σ1 := by
  refine Con.of (ρ := Int32 × Wd) (lv0 := [(0, .ref (h 0)), (1, .int a0)]) (σ := σ) (fun r : Int32 × Wd => some (.int r.1)) (fun r => r.2) (by decide) rfl rfl (Nat.le_of_ble_eq_true rfl) rfl hW hr (fun p e s m args below meth c E => ?_)
  unfold f_X8_node
  refine G.aload_n E dX8_node_0 0 rfl rfl ?_
  refine G.aload_n E dX8_node_1 0 rfl rfl ?_
  refine G.getI (T := TX8) (N := 21) (C := RX8) (q0 := 0) (i := 1) E dX8_node_2 iw_X8_node_8 (wsM_at0 _ _ _) rfl (by decide) rfl (List.mem_of_getElem? (i := 1) rfl) (fun v1 => ?_)
  refine G.bipush (v := 7) E dX8_node_5 (by decide) ?_
  refine G.jn (P := fun j => ∀ (v2 : Int32), G p l e (headSpec wsX8_node rm_X8_node).room s m args below meth c 2 0 0 D (wsM cy h) (adM h) (QM D (wsM cy h) (adM h) below args s 0 0 (fun r : Int32 × Wd => some (.int r.1)) (fun r => r.2)) 15 [(0, .ref (h 0)), (1, .int a0)] [.int v2, .ref (h 0)] σ (j v2)) ?_ (fun j15 hj15 => ?_)
  · intro v2
    refine G.putI (T := TX8) (N := 21) (C := RX8) (q0 := 0) (i := 0) (ty := .int) E dX8_node_15 iw_X8_node_8 tyX8 tyX8_ok nmX8 (wsM_at0 _ _ _) rfl (by decide) (List.mem_of_getElem? (i := 2) rfl) rfl (by decide +kernel) rfl rfl (Nat.le_of_ble_eq_true rfl) (wsM_set0_0 _ _ _ _) (fun s3 => ?_)
    refine G.aload_n E dX8_node_18 0 rfl rfl ?_
    refine G.getI (T := TX8) (N := 21) (C := RX8) (q0 := 0) (i := 0) E dX8_node_19 iw_X8_node_8 (wsM_at0 _ _ _) rfl (by decide) rfl (List.mem_of_getElem? (i := 2) rfl) (fun v4 => ?_)
    refine G.if_le (tgt := 27) E dX8_node_22 (by decide) ?_ ?_
    · refine G.aload_n E dX8_node_27 0 rfl rfl ?_
      refine G.iconst (v := 0) E dX8_node_28 (by decide) ?_
      refine G.putI (T := TX8) (N := 21) (C := RX8) (q0 := 0) (i := 10) (ty := .int) E dX8_node_29 iw_X8_node_8 tyX8 tyX8_ok nmX8 (wsM_at0 _ _ _) rfl (by decide) (List.mem_of_getElem? (i := 3) rfl) rfl (by decide +kernel) rfl rfl (Nat.le_of_ble_eq_true rfl) (wsM_set0_10 _ _ _ _) (fun s5 => ?_)
      refine G.aload_n E dX8_node_32 0 rfl rfl ?_
      refine G.iload_n E dX8_node_33 1 rfl rfl ?_
      refine G.callVis (n := 1) (T := TX8) (N := 21) (C := RX8) (a := h 0) (q0 := 0) (As := [.int a0]) E dX8_node_34 (fun _ _ hv => c_X8_addsNode E.wf hv) gX8_node_X8_addsNode rfl rfl rfl (by decide +kernel) ⟨Nat.le_of_ble_eq_true rfl, Nat.le_of_ble_eq_true rfl⟩ (wsM_at0 _ _ _) rfl rfl (Nat.le_of_ble_eq_true rfl) ⟨Nat.le_of_ble_eq_true rfl, Nat.le_of_ble_eq_true rfl⟩ (fun v6 s7 => ?_)
      exact G.iret E dX8_node_37 rfl rfl
    · refine G.iconst (v := 0) E dX8_node_25 (by decide) ?_
      exact G.iret E dX8_node_26 rfl rfl
  · refine G.icmp_ne (tgt := 14) E dX8_node_7 (by decide) ?_ ?_
    · refine G.iconst (v := 1) E dX8_node_10 (by decide) ?_
      refine G.goto (tgt := 15) E dX8_node_11 (by decide) ?_
      refine G.loc [0, 1] rfl ?_
      exact hj15 1
    · refine G.iconst (v := 0) E dX8_node_14 (by decide) ?_
      refine G.loc [0, 1] rfl ?_
      exact hj15 0
set_option maxHeartbeats 4000000 in
set_option maxRecDepth 100000 in
theorem iw_X8_nodes_8 : ∀ w ∈ u_ws RX8 TX8 21, w ∈ wsX8_nodes := fun _ h => List.mem_cons_of_mem _ (List.mem_append_right _ h)
abbrev rm_X8_nodes : Room := { frames := 0, cells := 0, slots := 0, locals := 0 }
noncomputable def f_X8_nodes (N : Nat) (σ : Wd) : Option (Int32 × Wd) :=
  wI σ 0 0 0 fun s1 =>
  gI s1 0 2 fun v2 =>
  some (v2, s1)
set_option maxHeartbeats 4000000 in
set_option maxRecDepth 100000 in
theorem c_X8_nodes {l : Launch} {D : va_G} {cy : Nat → ClassId} {h : Nat → Nat} {N : Nat} {σ : Wd} {r : Int32} {σ1 : Wd} (hW : WF (wsM cy h) (adM h)) (hr : f_X8_nodes N σ = some (r, σ1)) : Con l D cy (wsM cy h) (adM h) yX8_nodes wsX8_nodes rm_X8_nodes 0 0 [.ref (h 0)] (some (.int r)) σ σ1 := by
  refine Con.of (ρ := Int32 × Wd) (lv0 := [(0, .ref (h 0))]) (σ := σ) (fun r : Int32 × Wd => some (.int r.1)) (fun r => r.2) (by decide) rfl rfl (Nat.le_of_ble_eq_true rfl) rfl hW hr (fun p e s m args below meth c E => ?_)
  unfold f_X8_nodes
  refine G.aload_n E dX8_nodes_0 0 rfl rfl ?_
  refine G.iconst (v := 0) E dX8_nodes_1 (by decide) ?_
  refine G.putI (T := TX8) (N := 21) (C := RX8) (q0 := 0) (i := 0) (ty := .int) E dX8_nodes_2 iw_X8_nodes_8 tyX8 tyX8_ok nmX8 (wsM_at0 _ _ _) rfl (by decide) (List.mem_of_getElem? (i := 1) rfl) rfl (by decide +kernel) rfl rfl (Nat.le_of_ble_eq_true rfl) (wsM_set0_0 _ _ _ _) (fun s1 => ?_)
  refine G.aload_n E dX8_nodes_5 0 rfl rfl ?_
  refine G.getI (T := TX8) (N := 21) (C := RX8) (q0 := 0) (i := 2) E dX8_nodes_6 iw_X8_nodes_8 (wsM_at0 _ _ _) rfl (by decide) rfl (List.mem_of_getElem? (i := 2) rfl) (fun v2 => ?_)
  exact G.iret E dX8_nodes_9 rfl rfl
abbrev rm_X8_others : Room := { frames := 3, cells := 0, slots := 0, locals := 64 }
noncomputable def fl_X8_others_4 {ρ : Type} (N : Nat) (σ : Wd) (x1 : Int32) (K : Int32 → Option ρ) : Nat → Int32 → Int32 → Option ρ
  | 0, _, _ => none
  | n + 1, x2, x3 =>
    if 7 ≤ x3 then (
      K x2)
    else (
      bP (f_X8_isEdge N σ x3) fun v1 =>
      jn (fun (v2 : Int32) => ((
        fl_X8_others_4 N σ x1 K n v2 (x3 + 1)) : Option (ρ))) fun j33 =>
      jn (fun (_u : Unit) => ((
        j33 x2) : Option (ρ))) fun j32 =>
      if v1 = 0 then (
        j32 ())
      else (
        if x3 = x1 then (
          j32 ())
        else (
          j33 ((10 * x2) + x3))))
set_option maxHeartbeats 4000000 in
set_option maxRecDepth 100000 in
theorem gl_X8_others_4 {ρ : Type} {Q : ρ → State → Prop} {N : Nat} {σ : Wd} {x1 : Int32} {K : Int32 → Option ρ} (E : EV p s m args meth c cX8_others 4 RX8 wsX8_others (some .int) D cy (wsM cy h) (adM h)) (hK : ∀ (x2' : Int32), G p l e (headSpec wsX8_others rm_X8_others).room s m args below meth c 4 0 0 D (wsM cy h) (adM h) Q 40 [(2, .int (x2'))] [] σ (K x2')) :
  ∀ (n : Nat) (x2 : Int32) (x3 : Int32), G p l e (headSpec wsX8_others rm_X8_others).room s m args below meth c 4 0 0 D (wsM cy h) (adM h) Q 4 [(0, .ref (h 0)), (1, .int x1), (2, .int x2), (3, .int x3)] [] σ (fl_X8_others_4 N σ x1 K n x2 x3) := by
  intro n
  induction n with
  | zero => intros; exact G.no
  | succ n ih =>
    intro x2 x3
    rw [fl_X8_others_4]
    refine G.iload_n E dX8_others_4 3 rfl rfl ?_
    refine G.bipush (v := 7) E dX8_others_5 (by decide) ?_
    refine G.icmp_ge (tgt := 40) E dX8_others_7 (by decide) ?_ ?_
    · refine G.loc [2] rfl ?_
      exact hK x2
    · refine G.aload_n E dX8_others_10 0 rfl rfl ?_
      refine G.iload_n E dX8_others_11 3 rfl rfl ?_
      refine G.callVi (n := 1) (T := TX8) (N := 21) (C := RX8) (a := h 0) (q0 := 0) (As := [.int x3]) E dX8_others_12 (fun _ hv => c_X8_isEdge E.wf hv) gX8_others_X8_isEdge rfl rfl rfl (by decide +kernel) ⟨Nat.le_of_ble_eq_true rfl, Nat.le_of_ble_eq_true rfl⟩ (wsM_at0 _ _ _) rfl rfl (Nat.le_of_ble_eq_true rfl) ⟨Nat.le_of_ble_eq_true rfl, Nat.le_of_ble_eq_true rfl⟩ (fun v1 => ?_)
      refine G.jn (P := fun j => ∀ (v2 : Int32), G p l e (headSpec wsX8_others rm_X8_others).room s m args below meth c 4 0 0 D (wsM cy h) (adM h) Q 33 [(0, .ref (h 0)), (1, .int x1), (3, .int x3)] [.int v2] σ (j v2)) ?_ (fun j33 hj33 => ?_)
      · intro v2
        refine G.istore_n (lv' := [(2, .int v2), (0, .ref (h 0)), (1, .int x1), (3, .int x3)]) E dX8_others_33 rfl (by decide) rfl ?_
        refine G.iinc (v := x3 + 1) (lv' := [(3, .int (x3 + 1)), (2, .int v2), (0, .ref (h 0)), (1, .int x1)]) E dX8_others_34 3 rfl rfl (by decide) rfl ?_
        refine G.goto (tgt := 4) E dX8_others_37 (by decide) ?_
        refine G.loc [2, 3, 1, 0] rfl ?_
        exact ih v2 (x3 + 1)
      · refine G.jn (P := fun j => ∀ (_u : Unit), G p l e (headSpec wsX8_others rm_X8_others).room s m args below meth c 4 0 0 D (wsM cy h) (adM h) Q 32 [(0, .ref (h 0)), (1, .int x1), (2, .int x2), (3, .int x3)] [] σ (j _u)) ?_ (fun j32 hj32 => ?_)
        · intro _u
          refine G.iload_n E dX8_others_32 2 rfl rfl ?_
          refine G.loc [0, 1, 3] rfl ?_
          exact hj33 x2
        · refine G.if_eq (tgt := 32) E dX8_others_15 (by decide) ?_ ?_
          · refine G.loc [0, 1, 2, 3] rfl ?_
            exact hj32 ()
          · refine G.iload_n E dX8_others_18 3 rfl rfl ?_
            refine G.iload_n E dX8_others_19 1 rfl rfl ?_
            refine G.icmp_eq (tgt := 32) E dX8_others_20 (by decide) ?_ ?_
            · refine G.loc [0, 1, 2, 3] rfl ?_
              exact hj32 ()
            · refine G.bipush (v := 10) E dX8_others_23 (by decide) ?_
              refine G.iload_n E dX8_others_25 2 rfl rfl ?_
              refine G.imul E dX8_others_26 ?_
              refine G.iload_n E dX8_others_27 3 rfl rfl ?_
              refine G.iadd E dX8_others_28 ?_
              refine G.goto (tgt := 33) E dX8_others_29 (by decide) ?_
              refine G.loc [0, 1, 3] rfl ?_
              exact hj33 ((10 * x2) + x3)
noncomputable def f_X8_others (N : Nat) (σ : Wd) (a0 : Int32) : Option (Int32) :=
  fl_X8_others_4 N σ a0 (fun v3 =>
    some v3) N 0 0
set_option maxHeartbeats 4000000 in
set_option maxRecDepth 100000 in
theorem c_X8_others {l : Launch} {D : va_G} {cy : Nat → ClassId} {h : Nat → Nat} {N : Nat} {σ : Wd} {a0 : Int32} {r : Int32} (hW : WF (wsM cy h) (adM h)) (hr : f_X8_others N σ a0 = some r) : Con l D cy (wsM cy h) (adM h) yX8_others wsX8_others rm_X8_others 0 0 [.ref (h 0), .int a0] (some (.int r)) σ σ := by
  refine Con.of (ρ := Int32) (lv0 := [(0, .ref (h 0)), (1, .int a0)]) (σ := σ) (fun r : Int32 => some (.int r)) (fun _ => σ) (by decide) rfl rfl (Nat.le_of_ble_eq_true rfl) rfl hW hr (fun p e s m args below meth c E => ?_)
  unfold f_X8_others
  refine G.iconst (v := 0) E dX8_others_0 (by decide) ?_
  refine G.istore_n (lv' := [(2, .int 0), (0, .ref (h 0)), (1, .int a0)]) E dX8_others_1 rfl (by decide) rfl ?_
  refine G.iconst (v := 0) E dX8_others_2 (by decide) ?_
  refine G.istore_n (lv' := [(3, .int 0), (2, .int 0), (0, .ref (h 0)), (1, .int a0)]) E dX8_others_3 rfl (by decide) rfl ?_
  refine G.loc [2, 3, 1, 0] rfl ?_
  refine gl_X8_others_4 E (fun v3 => ?_) N _ _
  refine G.iload_n E dX8_others_40 0 rfl rfl ?_
  exact G.iret E dX8_others_41 rfl rfl
set_option maxHeartbeats 4000000 in
set_option maxRecDepth 100000 in
theorem iw_X8_potential_8 : ∀ w ∈ u_ws RX8 TX8 21, w ∈ wsX8_potential := fun _ h => List.mem_cons_of_mem _ (List.mem_append_right _ h)
abbrev rm_X8_potential : Room := { frames := 5, cells := 0, slots := 0, locals := 122 }
noncomputable def fl_X8_potential_55 {ρ : Type} (N : Nat) (x1 : Int32) (x2 : Int32) (K : Int64 → Wd → Option ρ) : Nat → Int64 → Int32 → Wd → Option ρ
  | 0, _, _, _ => none
  | n + 1, x3, x5, s0 =>
    if 7 ≤ x5 then (
      K x3 s0)
    else (
      bP (f_X8_isEdge N s0 x5) fun v6 =>
      jn (fun (v7 : Int64) (s8 : Wd) => ((
        lL (x3 + v7) fun v9 =>
        fl_X8_potential_55 N x1 x2 K n v9 (x5 + 1) s8) : Option (ρ))) fun j94 =>
      if v6 = 0 then (
        j94 0 s0)
      else (
        rI s0 4 7 x5 fun v10 =>
        bS (f_X8_counts N s0 3 x1 x5 0) fun v11 s12 =>
        j94 ((Int32.toInt64 v10) * v11) s12))
set_option maxHeartbeats 4000000 in
set_option maxRecDepth 100000 in
theorem gl_X8_potential_55 {ρ : Type} {Q : ρ → State → Prop} {N : Nat} {x1 : Int32} {x2 : Int32} {K : Int64 → Wd → Option ρ} (E : EV p s m args meth c cX8_potential 6 RX8 wsX8_potential (some .long) D cy (wsM cy h) (adM h)) (hK : ∀ (x3' : Int64) (s' : Wd), G p l e (headSpec wsX8_potential rm_X8_potential).room s m args below meth c 6 0 0 D (wsM cy h) (adM h) Q 102 [(0, .ref (h 0)), (2, .int x2), (3, .long (x3'))] [] s' (K x3' s')) :
  ∀ (n : Nat) (x3 : Int64) (x5 : Int32) (s0 : Wd), G p l e (headSpec wsX8_potential rm_X8_potential).room s m args below meth c 6 0 0 D (wsM cy h) (adM h) Q 55 [(0, .ref (h 0)), (1, .int x1), (2, .int x2), (3, .long x3), (5, .int x5)] [] s0 (fl_X8_potential_55 N x1 x2 K n x3 x5 s0) := by
  intro n
  induction n with
  | zero => intros; exact G.no
  | succ n ih =>
    intro x3 x5 s0
    rw [fl_X8_potential_55]
    refine G.iload E dX8_potential_55 4 rfl ?_
    refine G.bipush (v := 7) E dX8_potential_57 (by decide) ?_
    refine G.icmp_ge (tgt := 102) E dX8_potential_59 (by decide) ?_ ?_
    · refine G.loc [0, 2, 3] rfl ?_
      exact hK x3 s0
    · refine G.lload_n E dX8_potential_62 3 rfl rfl ?_
      refine G.aload_n E dX8_potential_63 0 rfl rfl ?_
      refine G.iload E dX8_potential_64 4 rfl ?_
      refine G.callVi (n := 1) (T := TX8) (N := 21) (C := RX8) (a := h 0) (q0 := 0) (As := [.int x5]) E dX8_potential_66 (fun _ hv => c_X8_isEdge E.wf hv) gX8_potential_X8_isEdge rfl rfl rfl (by decide +kernel) ⟨Nat.le_of_ble_eq_true rfl, Nat.le_of_ble_eq_true rfl⟩ (wsM_at0 _ _ _) rfl rfl (Nat.le_of_ble_eq_true rfl) ⟨Nat.le_of_ble_eq_true rfl, Nat.le_of_ble_eq_true rfl⟩ (fun v6 => ?_)
      refine G.jn (P := fun j => ∀ (v7 : Int64) (s8 : Wd), G p l e (headSpec wsX8_potential rm_X8_potential).room s m args below meth c 6 0 0 D (wsM cy h) (adM h) Q 94 [(0, .ref (h 0)), (1, .int x1), (2, .int x2), (5, .int x5)] [.long v7, .long x3] s8 (j v7 s8)) ?_ (fun j94 hj94 => ?_)
      · intro v7 s8
        refine G.ladd E dX8_potential_94 ?_
        refine G.letL (fun v9 => ?_)
        refine G.lstore_n (lv' := [(3, .long v9), (0, .ref (h 0)), (1, .int x1), (2, .int x2), (5, .int x5)]) E dX8_potential_95 rfl (by decide) rfl ?_
        refine G.iinc (v := x5 + 1) (lv' := [(5, .int (x5 + 1)), (3, .long v9), (0, .ref (h 0)), (1, .int x1), (2, .int x2)]) E dX8_potential_96 4 rfl rfl (by decide) rfl ?_
        refine G.goto (tgt := 55) E dX8_potential_99 (by decide) ?_
        refine G.loc [2, 3, 4, 1, 0] rfl ?_
        exact ih v9 (x5 + 1) s8
      · refine G.if_eq (tgt := 93) E dX8_potential_69 (by decide) ?_ ?_
        · refine G.lconst (v := 0) E dX8_potential_93 (by decide) ?_
          refine G.loc [0, 1, 2, 4] rfl ?_
          exact hj94 0 s0
        · refine G.aload_n E dX8_potential_72 0 rfl rfl ?_
          refine G.getR (T := TX8) (N := 21) (C := RX8) (q0 := 0) (i := 9) E dX8_potential_73 iw_X8_potential_8 (wsM_at0 _ _ _) rfl (by decide) rfl (List.mem_of_getElem? (i := 2) rfl) ?_
          refine G.iload E dX8_potential_76 4 rfl ?_
          refine G.iald (q0 := 4) E dX8_potential_78 (wsM_at4 _ _ _) (fun v10 => ?_)
          refine G.i2l E dX8_potential_79 ?_
          refine G.aload_n E dX8_potential_80 0 rfl rfl ?_
          refine G.iconst (v := 3) E dX8_potential_81 (by decide) ?_
          refine G.iload_n E dX8_potential_82 1 rfl rfl ?_
          refine G.iload E dX8_potential_83 4 rfl ?_
          refine G.iconst (v := 0) E dX8_potential_85 (by decide) ?_
          refine G.callVls (n := 4) (T := TX8) (N := 21) (C := RX8) (a := h 0) (q0 := 0) (As := [.int 3, .int x1, .int x5, .int 0]) E dX8_potential_86 (fun _ _ hv => c_X8_counts E.wf hv) gX8_potential_X8_counts rfl rfl rfl (by decide +kernel) ⟨Nat.le_of_ble_eq_true rfl, Nat.le_of_ble_eq_true rfl⟩ (wsM_at0 _ _ _) rfl rfl (Nat.le_of_ble_eq_true rfl) ⟨Nat.le_of_ble_eq_true rfl, Nat.le_of_ble_eq_true rfl⟩ (fun v11 s12 => ?_)
          refine G.lmul E dX8_potential_89 ?_
          refine G.goto (tgt := 94) E dX8_potential_90 (by decide) ?_
          refine G.loc [0, 1, 2, 4] rfl ?_
          exact hj94 ((Int32.toInt64 v10) * v11) s12
noncomputable def f_X8_potential (N : Nat) (σ : Wd) (a0 : Int32) (a1 : Int32) : Option (Int64 × Wd) :=
  bP (f_X8_isNode N σ a0) fun v1 =>
  jn (fun (v2 : Int32) => ((
    wI σ 0 0 v2 fun s3 =>
    gI s3 0 0 fun v4 =>
    if v4 ≤ 0 then (
      bP (f_X8_isEdge N s3 a0) fun v5 =>
      if v5 = 0 then (
        fl_X8_potential_55 N a0 a1 (fun v13 s14 =>
          bS (f_X8_counts N s14 1 0 0 0) fun v15 s16 =>
          bP (f_X8_part N v13 v15 a1) fun v17 =>
          some (v17, s16)) N 0 0 s3)
      else (
        if a1 = 0 then (
          rI s3 4 7 a0 fun v18 =>
          some (Int32.toInt64 v18, s3))
        else (
          some (1, s3))))
    else (
      some (0, s3))) : Option (Int64 × Wd))) fun j14 =>
  if v1 = 0 then (
    j14 1)
  else (
    j14 0)
set_option maxHeartbeats 4000000 in
set_option maxRecDepth 100000 in
theorem c_X8_potential {l : Launch} {D : va_G} {cy : Nat → ClassId} {h : Nat → Nat} {N : Nat} {σ : Wd} {a0 : Int32} {a1 : Int32} {r : Int64} {σ1 : Wd} (hW : WF (wsM cy h) (adM h)) (hr : f_X8_potential N σ a0 a1 = some (r, σ1)) : Con l D cy (wsM cy h) (adM h) yX8_potential wsX8_potential rm_X8_potential 0 0 [.ref (h 0), .int a0, .int a1] (some (.long r)) σ σ1 := by
  refine Con.of (ρ := Int64 × Wd) (lv0 := [(0, .ref (h 0)), (1, .int a0), (2, .int a1)]) (σ := σ) (fun r : Int64 × Wd => some (.long r.1)) (fun r => r.2) (by decide) rfl rfl (Nat.le_of_ble_eq_true rfl) rfl hW hr (fun p e s m args below meth c E => ?_)
  unfold f_X8_potential
  refine G.aload_n E dX8_potential_0 0 rfl rfl ?_
  refine G.aload_n E dX8_potential_1 0 rfl rfl ?_
  refine G.iload_n E dX8_potential_2 1 rfl rfl ?_
  refine G.callVi (n := 1) (T := TX8) (N := 21) (C := RX8) (a := h 0) (q0 := 0) (As := [.int a0]) E dX8_potential_3 (fun _ hv => c_X8_isNode E.wf hv) gX8_potential_X8_isNode rfl rfl rfl (by decide +kernel) ⟨Nat.le_of_ble_eq_true rfl, Nat.le_of_ble_eq_true rfl⟩ (wsM_at0 _ _ _) rfl rfl (Nat.le_of_ble_eq_true rfl) ⟨Nat.le_of_ble_eq_true rfl, Nat.le_of_ble_eq_true rfl⟩ (fun v1 => ?_)
  refine G.jn (P := fun j => ∀ (v2 : Int32), G p l e (headSpec wsX8_potential rm_X8_potential).room s m args below meth c 6 0 0 D (wsM cy h) (adM h) (QM D (wsM cy h) (adM h) below args s 0 0 (fun r : Int64 × Wd => some (.long r.1)) (fun r => r.2)) 14 [(0, .ref (h 0)), (1, .int a0), (2, .int a1)] [.int v2, .ref (h 0)] σ (j v2)) ?_ (fun j14 hj14 => ?_)
  · intro v2
    refine G.putI (T := TX8) (N := 21) (C := RX8) (q0 := 0) (i := 0) (ty := .int) E dX8_potential_14 iw_X8_potential_8 tyX8 tyX8_ok nmX8 (wsM_at0 _ _ _) rfl (by decide) (List.mem_of_getElem? (i := 1) rfl) rfl (by decide +kernel) rfl rfl (Nat.le_of_ble_eq_true rfl) (wsM_set0_0 _ _ _ _) (fun s3 => ?_)
    refine G.aload_n E dX8_potential_17 0 rfl rfl ?_
    refine G.getI (T := TX8) (N := 21) (C := RX8) (q0 := 0) (i := 0) E dX8_potential_18 iw_X8_potential_8 (wsM_at0 _ _ _) rfl (by decide) rfl (List.mem_of_getElem? (i := 1) rfl) (fun v4 => ?_)
    refine G.if_le (tgt := 26) E dX8_potential_21 (by decide) ?_ ?_
    · refine G.aload_n E dX8_potential_26 0 rfl rfl ?_
      refine G.iload_n E dX8_potential_27 1 rfl rfl ?_
      refine G.callVi (n := 1) (T := TX8) (N := 21) (C := RX8) (a := h 0) (q0 := 0) (As := [.int a0]) E dX8_potential_28 (fun _ hv => c_X8_isEdge E.wf hv) gX8_potential_X8_isEdge rfl rfl rfl (by decide +kernel) ⟨Nat.le_of_ble_eq_true rfl, Nat.le_of_ble_eq_true rfl⟩ (wsM_at0 _ _ _) rfl rfl (Nat.le_of_ble_eq_true rfl) ⟨Nat.le_of_ble_eq_true rfl, Nat.le_of_ble_eq_true rfl⟩ (fun v5 => ?_)
      refine G.if_eq (tgt := 50) E dX8_potential_31 (by decide) ?_ ?_
      · refine G.lconst (v := 0) E dX8_potential_50 (by decide) ?_
        refine G.lstore_n (lv' := [(3, .long 0), (0, .ref (h 0)), (1, .int a0), (2, .int a1)]) E dX8_potential_51 rfl (by decide) rfl ?_
        refine G.iconst (v := 0) E dX8_potential_52 (by decide) ?_
        refine G.istore (lv' := [(5, .int 0), (3, .long 0), (0, .ref (h 0)), (1, .int a0), (2, .int a1)]) E dX8_potential_53 (by decide) rfl ?_
        refine G.loc [2, 3, 4, 1, 0] rfl ?_
        refine gl_X8_potential_55 E (fun v13 s14 => ?_) N _ _ _
        refine G.lload_n E dX8_potential_102 2 rfl rfl ?_
        refine G.aload_n E dX8_potential_103 0 rfl rfl ?_
        refine G.iconst (v := 1) E dX8_potential_104 (by decide) ?_
        refine G.iconst (v := 0) E dX8_potential_105 (by decide) ?_
        refine G.iconst (v := 0) E dX8_potential_106 (by decide) ?_
        refine G.iconst (v := 0) E dX8_potential_107 (by decide) ?_
        refine G.callVls (n := 4) (T := TX8) (N := 21) (C := RX8) (a := h 0) (q0 := 0) (As := [.int 1, .int 0, .int 0, .int 0]) E dX8_potential_108 (fun _ _ hv => c_X8_counts E.wf hv) gX8_potential_X8_counts rfl rfl rfl (by decide +kernel) ⟨Nat.le_of_ble_eq_true rfl, Nat.le_of_ble_eq_true rfl⟩ (wsM_at0 _ _ _) rfl rfl (Nat.le_of_ble_eq_true rfl) ⟨Nat.le_of_ble_eq_true rfl, Nat.le_of_ble_eq_true rfl⟩ (fun v15 s16 => ?_)
        refine G.iload_n E dX8_potential_111 1 rfl rfl ?_
        refine G.callSl (n := 3) (As := [.long v13, .long v15, .int a1]) E dX8_potential_112 (fun _ hv => c_X8_part E.wf hv) gX8_potential_X8_part rfl rfl rfl (by decide +kernel) ⟨Nat.le_of_ble_eq_true rfl, Nat.le_of_ble_eq_true rfl⟩ rfl (Nat.le_of_ble_eq_true rfl) ⟨Nat.le_of_ble_eq_true rfl, Nat.le_of_ble_eq_true rfl⟩ (fun v17 => ?_)
        exact G.lret E dX8_potential_115 rfl rfl
      · refine G.iload_n E dX8_potential_34 2 rfl rfl ?_
        refine G.if_eq (tgt := 42) E dX8_potential_35 (by decide) ?_ ?_
        · refine G.aload_n E dX8_potential_42 0 rfl rfl ?_
          refine G.getR (T := TX8) (N := 21) (C := RX8) (q0 := 0) (i := 9) E dX8_potential_43 iw_X8_potential_8 (wsM_at0 _ _ _) rfl (by decide) rfl (List.mem_of_getElem? (i := 2) rfl) ?_
          refine G.iload_n E dX8_potential_46 1 rfl rfl ?_
          refine G.iald (q0 := 4) E dX8_potential_47 (wsM_at4 _ _ _) (fun v18 => ?_)
          refine G.i2l E dX8_potential_48 ?_
          exact G.lret E dX8_potential_49 rfl rfl
        · refine G.lconst (v := 1) E dX8_potential_38 (by decide) ?_
          refine G.goto (tgt := 49) E dX8_potential_39 (by decide) ?_
          exact G.lret E dX8_potential_49 rfl rfl
    · refine G.lconst (v := 0) E dX8_potential_24 (by decide) ?_
      exact G.lret E dX8_potential_25 rfl rfl
  · refine G.if_eq (tgt := 13) E dX8_potential_6 (by decide) ?_ ?_
    · refine G.iconst (v := 1) E dX8_potential_13 (by decide) ?_
      refine G.loc [0, 1, 2] rfl ?_
      exact hj14 1
    · refine G.iconst (v := 0) E dX8_potential_9 (by decide) ?_
      refine G.goto (tgt := 14) E dX8_potential_10 (by decide) ?_
      refine G.loc [0, 1, 2] rfl ?_
      exact hj14 0
set_option maxHeartbeats 4000000 in
set_option maxRecDepth 100000 in
theorem iw_X8_power_8 : ∀ w ∈ u_ws RX8 TX8 21, w ∈ wsX8_power := fun _ h => List.mem_cons_of_mem _ (List.mem_append_right _ h)
abbrev rm_X8_power : Room := { frames := 6, cells := 0, slots := 0, locals := 146 }
noncomputable def fl_X8_power_10 {ρ : Type} (N : Nat) (x1 : Int32) (K : Int64 → Wd → Option ρ) : Nat → Int64 → Int32 → Wd → Option ρ
  | 0, _, _, _ => none
  | n + 1, x2, x4, s0 =>
    if 7 ≤ x4 then (
      K x2 s0)
    else (
      bP (f_X8_isEdge N s0 x4) fun v2 =>
      jn (fun (v3 : Int64) (s4 : Wd) => ((
        lL (x2 + v3) fun v5 =>
        fl_X8_power_10 N x1 K n v5 (x4 + 1) s4) : Option (ρ))) fun j46 =>
      if v2 = 0 then (
        j46 0 s0)
      else (
        rI s0 4 7 x4 fun v6 =>
        bS (f_X8_currentTimes N s0 x4) fun v7 s8 =>
        j46 ((Int32.toInt64 v6) * v7) s8))
set_option maxHeartbeats 4000000 in
set_option maxRecDepth 100000 in
theorem gl_X8_power_10 {ρ : Type} {Q : ρ → State → Prop} {N : Nat} {x1 : Int32} {K : Int64 → Wd → Option ρ} (E : EV p s m args meth c cX8_power 5 RX8 wsX8_power (some .long) D cy (wsM cy h) (adM h)) (hK : ∀ (x2' : Int64) (s' : Wd), G p l e (headSpec wsX8_power rm_X8_power).room s m args below meth c 5 0 0 D (wsM cy h) (adM h) Q 54 [(0, .ref (h 0)), (1, .int x1), (2, .long (x2'))] [] s' (K x2' s')) :
  ∀ (n : Nat) (x2 : Int64) (x4 : Int32) (s0 : Wd), G p l e (headSpec wsX8_power rm_X8_power).room s m args below meth c 5 0 0 D (wsM cy h) (adM h) Q 10 [(0, .ref (h 0)), (1, .int x1), (2, .long x2), (4, .int x4)] [] s0 (fl_X8_power_10 N x1 K n x2 x4 s0) := by
  intro n
  induction n with
  | zero => intros; exact G.no
  | succ n ih =>
    intro x2 x4 s0
    rw [fl_X8_power_10]
    refine G.iload E dX8_power_10 3 rfl ?_
    refine G.bipush (v := 7) E dX8_power_12 (by decide) ?_
    refine G.icmp_ge (tgt := 54) E dX8_power_14 (by decide) ?_ ?_
    · refine G.loc [0, 1, 2] rfl ?_
      exact hK x2 s0
    · refine G.lload_n E dX8_power_17 2 rfl rfl ?_
      refine G.aload_n E dX8_power_18 0 rfl rfl ?_
      refine G.iload E dX8_power_19 3 rfl ?_
      refine G.callVi (n := 1) (T := TX8) (N := 21) (C := RX8) (a := h 0) (q0 := 0) (As := [.int x4]) E dX8_power_21 (fun _ hv => c_X8_isEdge E.wf hv) gX8_power_X8_isEdge rfl rfl rfl (by decide +kernel) ⟨Nat.le_of_ble_eq_true rfl, Nat.le_of_ble_eq_true rfl⟩ (wsM_at0 _ _ _) rfl rfl (Nat.le_of_ble_eq_true rfl) ⟨Nat.le_of_ble_eq_true rfl, Nat.le_of_ble_eq_true rfl⟩ (fun v2 => ?_)
      refine G.jn (P := fun j => ∀ (v3 : Int64) (s4 : Wd), G p l e (headSpec wsX8_power rm_X8_power).room s m args below meth c 5 0 0 D (wsM cy h) (adM h) Q 46 [(0, .ref (h 0)), (1, .int x1), (4, .int x4)] [.long v3, .long x2] s4 (j v3 s4)) ?_ (fun j46 hj46 => ?_)
      · intro v3 s4
        refine G.ladd E dX8_power_46 ?_
        refine G.letL (fun v5 => ?_)
        refine G.lstore_n (lv' := [(2, .long v5), (0, .ref (h 0)), (1, .int x1), (4, .int x4)]) E dX8_power_47 rfl (by decide) rfl ?_
        refine G.iinc (v := x4 + 1) (lv' := [(4, .int (x4 + 1)), (2, .long v5), (0, .ref (h 0)), (1, .int x1)]) E dX8_power_48 3 rfl rfl (by decide) rfl ?_
        refine G.goto (tgt := 10) E dX8_power_51 (by decide) ?_
        refine G.loc [2, 3, 1, 0] rfl ?_
        exact ih v5 (x4 + 1) s4
      · refine G.if_eq (tgt := 45) E dX8_power_24 (by decide) ?_ ?_
        · refine G.lconst (v := 0) E dX8_power_45 (by decide) ?_
          refine G.loc [0, 1, 3] rfl ?_
          exact hj46 0 s0
        · refine G.aload_n E dX8_power_27 0 rfl rfl ?_
          refine G.getR (T := TX8) (N := 21) (C := RX8) (q0 := 0) (i := 9) E dX8_power_28 iw_X8_power_8 (wsM_at0 _ _ _) rfl (by decide) rfl (List.mem_of_getElem? (i := 2) rfl) ?_
          refine G.iload E dX8_power_31 3 rfl ?_
          refine G.iald (q0 := 4) E dX8_power_33 (wsM_at4 _ _ _) (fun v6 => ?_)
          refine G.i2l E dX8_power_34 ?_
          refine G.aload_n E dX8_power_35 0 rfl rfl ?_
          refine G.iload E dX8_power_36 3 rfl ?_
          refine G.callVls (n := 1) (T := TX8) (N := 21) (C := RX8) (a := h 0) (q0 := 0) (As := [.int x4]) E dX8_power_38 (fun _ _ hv => c_X8_currentTimes E.wf hv) gX8_power_X8_currentTimes rfl rfl rfl (by decide +kernel) ⟨Nat.le_of_ble_eq_true rfl, Nat.le_of_ble_eq_true rfl⟩ (wsM_at0 _ _ _) rfl rfl (Nat.le_of_ble_eq_true rfl) ⟨Nat.le_of_ble_eq_true rfl, Nat.le_of_ble_eq_true rfl⟩ (fun v7 s8 => ?_)
          refine G.lmul E dX8_power_41 ?_
          refine G.goto (tgt := 46) E dX8_power_42 (by decide) ?_
          refine G.loc [0, 1, 3] rfl ?_
          exact hj46 ((Int32.toInt64 v6) * v7) s8
noncomputable def f_X8_power (N : Nat) (σ : Wd) (a0 : Int32) : Option (Int64 × Wd) :=
  wI σ 0 0 0 fun s1 =>
  fl_X8_power_10 N a0 (fun v9 s10 =>
    bS (f_X8_counts N s10 1 0 0 0) fun v11 s12 =>
    bP (f_X8_part N v9 v11 a0) fun v13 =>
    some (v13, s12)) N 0 0 s1
set_option maxHeartbeats 4000000 in
set_option maxRecDepth 100000 in
theorem c_X8_power {l : Launch} {D : va_G} {cy : Nat → ClassId} {h : Nat → Nat} {N : Nat} {σ : Wd} {a0 : Int32} {r : Int64} {σ1 : Wd} (hW : WF (wsM cy h) (adM h)) (hr : f_X8_power N σ a0 = some (r, σ1)) : Con l D cy (wsM cy h) (adM h) yX8_power wsX8_power rm_X8_power 0 0 [.ref (h 0), .int a0] (some (.long r)) σ σ1 := by
  refine Con.of (ρ := Int64 × Wd) (lv0 := [(0, .ref (h 0)), (1, .int a0)]) (σ := σ) (fun r : Int64 × Wd => some (.long r.1)) (fun r => r.2) (by decide) rfl rfl (Nat.le_of_ble_eq_true rfl) rfl hW hr (fun p e s m args below meth c E => ?_)
  unfold f_X8_power
  refine G.aload_n E dX8_power_0 0 rfl rfl ?_
  refine G.iconst (v := 0) E dX8_power_1 (by decide) ?_
  refine G.putI (T := TX8) (N := 21) (C := RX8) (q0 := 0) (i := 0) (ty := .int) E dX8_power_2 iw_X8_power_8 tyX8 tyX8_ok nmX8 (wsM_at0 _ _ _) rfl (by decide) (List.mem_of_getElem? (i := 1) rfl) rfl (by decide +kernel) rfl rfl (Nat.le_of_ble_eq_true rfl) (wsM_set0_0 _ _ _ _) (fun s1 => ?_)
  refine G.lconst (v := 0) E dX8_power_5 (by decide) ?_
  refine G.lstore_n (lv' := [(2, .long 0), (0, .ref (h 0)), (1, .int a0)]) E dX8_power_6 rfl (by decide) rfl ?_
  refine G.iconst (v := 0) E dX8_power_7 (by decide) ?_
  refine G.istore (lv' := [(4, .int 0), (2, .long 0), (0, .ref (h 0)), (1, .int a0)]) E dX8_power_8 (by decide) rfl ?_
  refine G.loc [2, 3, 1, 0] rfl ?_
  refine gl_X8_power_10 E (fun v9 s10 => ?_) N _ _ _
  refine G.lload_n E dX8_power_54 2 rfl rfl ?_
  refine G.aload_n E dX8_power_55 0 rfl rfl ?_
  refine G.iconst (v := 1) E dX8_power_56 (by decide) ?_
  refine G.iconst (v := 0) E dX8_power_57 (by decide) ?_
  refine G.iconst (v := 0) E dX8_power_58 (by decide) ?_
  refine G.iconst (v := 0) E dX8_power_59 (by decide) ?_
  refine G.callVls (n := 4) (T := TX8) (N := 21) (C := RX8) (a := h 0) (q0 := 0) (As := [.int 1, .int 0, .int 0, .int 0]) E dX8_power_60 (fun _ _ hv => c_X8_counts E.wf hv) gX8_power_X8_counts rfl rfl rfl (by decide +kernel) ⟨Nat.le_of_ble_eq_true rfl, Nat.le_of_ble_eq_true rfl⟩ (wsM_at0 _ _ _) rfl rfl (Nat.le_of_ble_eq_true rfl) ⟨Nat.le_of_ble_eq_true rfl, Nat.le_of_ble_eq_true rfl⟩ (fun v11 s12 => ?_)
  refine G.iload_n E dX8_power_63 1 rfl rfl ?_
  refine G.callSl (n := 3) (As := [.long v9, .long v11, .int a0]) E dX8_power_64 (fun _ hv => c_X8_part E.wf hv) gX8_power_X8_part rfl rfl rfl (by decide +kernel) ⟨Nat.le_of_ble_eq_true rfl, Nat.le_of_ble_eq_true rfl⟩ rfl (Nat.le_of_ble_eq_true rfl) ⟨Nat.le_of_ble_eq_true rfl, Nat.le_of_ble_eq_true rfl⟩ (fun v13 => ?_)
  exact G.lret E dX8_power_67 rfl rfl
set_option maxHeartbeats 4000000 in
set_option maxRecDepth 100000 in
theorem iw_X8_rest_8 : ∀ w ∈ u_ws RX8 TX8 21, w ∈ wsX8_rest := fun _ h => List.mem_cons_of_mem _ (List.mem_append_right _ h)
abbrev rm_X8_rest : Room := { frames := 5, cells := 0, slots := 0, locals := 122 }
noncomputable def f_X8_rest (N : Nat) (σ : Wd) : Option (Int64 × Wd) :=
  wI σ 0 0 0 fun s1 =>
  bS (f_X8_counts N s1 1 0 0 0) fun v2 s3 =>
  some (v2, s3)
set_option maxHeartbeats 4000000 in
set_option maxRecDepth 100000 in
theorem c_X8_rest {l : Launch} {D : va_G} {cy : Nat → ClassId} {h : Nat → Nat} {N : Nat} {σ : Wd} {r : Int64} {σ1 : Wd} (hW : WF (wsM cy h) (adM h)) (hr : f_X8_rest N σ = some (r, σ1)) : Con l D cy (wsM cy h) (adM h) yX8_rest wsX8_rest rm_X8_rest 0 0 [.ref (h 0)] (some (.long r)) σ σ1 := by
  refine Con.of (ρ := Int64 × Wd) (lv0 := [(0, .ref (h 0))]) (σ := σ) (fun r : Int64 × Wd => some (.long r.1)) (fun r => r.2) (by decide) rfl rfl (Nat.le_of_ble_eq_true rfl) rfl hW hr (fun p e s m args below meth c E => ?_)
  unfold f_X8_rest
  refine G.aload_n E dX8_rest_0 0 rfl rfl ?_
  refine G.iconst (v := 0) E dX8_rest_1 (by decide) ?_
  refine G.putI (T := TX8) (N := 21) (C := RX8) (q0 := 0) (i := 0) (ty := .int) E dX8_rest_2 iw_X8_rest_8 tyX8 tyX8_ok nmX8 (wsM_at0 _ _ _) rfl (by decide) (List.mem_of_getElem? (i := 1) rfl) rfl (by decide +kernel) rfl rfl (Nat.le_of_ble_eq_true rfl) (wsM_set0_0 _ _ _ _) (fun s1 => ?_)
  refine G.aload_n E dX8_rest_5 0 rfl rfl ?_
  refine G.iconst (v := 1) E dX8_rest_6 (by decide) ?_
  refine G.iconst (v := 0) E dX8_rest_7 (by decide) ?_
  refine G.iconst (v := 0) E dX8_rest_8 (by decide) ?_
  refine G.iconst (v := 0) E dX8_rest_9 (by decide) ?_
  refine G.callVls (n := 4) (T := TX8) (N := 21) (C := RX8) (a := h 0) (q0 := 0) (As := [.int 1, .int 0, .int 0, .int 0]) E dX8_rest_10 (fun _ _ hv => c_X8_counts E.wf hv) gX8_rest_X8_counts rfl rfl rfl (by decide +kernel) ⟨Nat.le_of_ble_eq_true rfl, Nat.le_of_ble_eq_true rfl⟩ (wsM_at0 _ _ _) rfl rfl (Nat.le_of_ble_eq_true rfl) ⟨Nat.le_of_ble_eq_true rfl, Nat.le_of_ble_eq_true rfl⟩ (fun v2 s3 => ?_)
  exact G.lret E dX8_rest_13 rfl rfl
abbrev rm_X8_simplifies : Room := { frames := 5, cells := 0, slots := 0, locals := 117 }
noncomputable def fl_X8_simplifies_9 (N : Nat) (x1 : Int32) (K : Wd → Option (Int32 × Wd)) : Nat → Int32 → Wd → Option (Int32 × Wd)
  | 0, _, _ => none
  | n + 1, x2, s0 =>
    if 20 ≤ x2 then (
      K s0)
    else (
      bP (f_X8_isOfWire N x1) fun v1 =>
      jn (fun (v2 : Int32) => ((
        jn (fun (s3 : Wd) => ((
          fl_X8_simplifies_9 N x1 K n (x2 + 1) s3) : Option (Int32 × Wd))) fun j57 =>
        if v2 = 0 then (
          j57 s0)
        else (
          bS (f_X8_isPossible N s0 x1 x2) fun v4 s5 =>
          if v4 = 0 then (
            j57 s5)
          else (
            bP (f_X8_does N s5 x1 x2) fun s6 =>
            some (1, s6)))) : Option (Int32 × Wd))) fun j35 =>
      if v1 = 0 then (
        bP (f_X8_isNode N s0 x2) fun v7 =>
        j35 v7)
      else (
        bP (f_X8_isWire N s0 x2) fun v8 =>
        j35 v8))
set_option maxHeartbeats 4000000 in
set_option maxRecDepth 100000 in
theorem gl_X8_simplifies_9 {N : Nat} {x1 : Int32} {K : Wd → Option (Int32 × Wd)} (E : EV p s m args meth c cX8_simplifies 4 RX8 wsX8_simplifies (some .boolean) D cy (wsM cy h) (adM h)) (hK : ∀ (s' : Wd), G p l e (headSpec wsX8_simplifies rm_X8_simplifies).room s m args below meth c 4 0 0 D (wsM cy h) (adM h) (QM D (wsM cy h) (adM h) below args s 0 0 (fun r : Int32 × Wd => some (.int r.1)) (fun r => r.2)) 63 [(0, .ref (h 0)), (1, .int x1)] [] s' (K s')) :
  ∀ (n : Nat) (x2 : Int32) (s0 : Wd), G p l e (headSpec wsX8_simplifies rm_X8_simplifies).room s m args below meth c 4 0 0 D (wsM cy h) (adM h) (QM D (wsM cy h) (adM h) below args s 0 0 (fun r : Int32 × Wd => some (.int r.1)) (fun r => r.2)) 9 [(0, .ref (h 0)), (1, .int x1), (2, .int x2)] [] s0 (fl_X8_simplifies_9 N x1 K n x2 s0) := by
  intro n
  induction n with
  | zero => intros; exact G.no
  | succ n ih =>
    intro x2 s0
    rw [fl_X8_simplifies_9]
    refine G.iload_n E dX8_simplifies_9 2 rfl rfl ?_
    refine G.bipush (v := 20) E dX8_simplifies_10 (by decide) ?_
    refine G.icmp_ge (tgt := 63) E dX8_simplifies_12 (by decide) ?_ ?_
    · refine G.loc [0, 1] rfl ?_
      exact hK s0
    · refine G.iload_n E dX8_simplifies_15 1 rfl rfl ?_
      refine G.callSi (n := 1) (As := [.int x1]) E dX8_simplifies_16 (fun _ hv => c_X8_isOfWire E.wf hv) gX8_simplifies_X8_isOfWire rfl rfl rfl (by decide +kernel) ⟨Nat.le_of_ble_eq_true rfl, Nat.le_of_ble_eq_true rfl⟩ rfl (Nat.le_of_ble_eq_true rfl) ⟨Nat.le_of_ble_eq_true rfl, Nat.le_of_ble_eq_true rfl⟩ (fun v1 => ?_)
      refine G.jn (P := fun j => ∀ (v2 : Int32), G p l e (headSpec wsX8_simplifies rm_X8_simplifies).room s m args below meth c 4 0 0 D (wsM cy h) (adM h) (QM D (wsM cy h) (adM h) below args s 0 0 (fun r : Int32 × Wd => some (.int r.1)) (fun r => r.2)) 35 [(0, .ref (h 0)), (1, .int x1), (2, .int x2)] [.int v2] s0 (j v2)) ?_ (fun j35 hj35 => ?_)
      · intro v2
        refine G.istore_n (lv' := [(3, .int v2), (0, .ref (h 0)), (1, .int x1), (2, .int x2)]) E dX8_simplifies_35 rfl (by decide) rfl ?_
        refine G.iload_n E dX8_simplifies_36 0 rfl rfl ?_
        refine G.jn (P := fun j => ∀ (s3 : Wd), G p l e (headSpec wsX8_simplifies rm_X8_simplifies).room s m args below meth c 4 0 0 D (wsM cy h) (adM h) (QM D (wsM cy h) (adM h) below args s 0 0 (fun r : Int32 × Wd => some (.int r.1)) (fun r => r.2)) 57 [(0, .ref (h 0)), (1, .int x1), (2, .int x2)] [] s3 (j s3)) ?_ (fun j57 hj57 => ?_)
        · intro s3
          refine G.iinc (v := x2 + 1) (lv' := [(2, .int (x2 + 1)), (0, .ref (h 0)), (1, .int x1)]) E dX8_simplifies_57 2 rfl rfl (by decide) rfl ?_
          refine G.goto (tgt := 9) E dX8_simplifies_60 (by decide) ?_
          refine G.loc [1, 2, 0] rfl ?_
          exact ih (x2 + 1) s3
        · refine G.if_eq (tgt := 57) E dX8_simplifies_37 (by decide) ?_ ?_
          · refine G.loc [1, 2, 3] rfl ?_
            exact hj57 s0
          · refine G.aload_n E dX8_simplifies_40 1 rfl rfl ?_
            refine G.iload_n E dX8_simplifies_41 2 rfl rfl ?_
            refine G.iload_n E dX8_simplifies_42 3 rfl rfl ?_
            refine G.callVis (n := 2) (T := TX8) (N := 21) (C := RX8) (a := h 0) (q0 := 0) (As := [.int x1, .int x2]) E dX8_simplifies_43 (fun _ _ hv => c_X8_isPossible E.wf hv) gX8_simplifies_X8_isPossible rfl rfl rfl (by decide +kernel) ⟨Nat.le_of_ble_eq_true rfl, Nat.le_of_ble_eq_true rfl⟩ (wsM_at0 _ _ _) rfl rfl (Nat.le_of_ble_eq_true rfl) ⟨Nat.le_of_ble_eq_true rfl, Nat.le_of_ble_eq_true rfl⟩ (fun v4 s5 => ?_)
            refine G.if_eq (tgt := 57) E dX8_simplifies_46 (by decide) ?_ ?_
            · refine G.loc [1, 2, 3] rfl ?_
              exact hj57 s5
            · refine G.aload_n E dX8_simplifies_49 1 rfl rfl ?_
              refine G.iload_n E dX8_simplifies_50 2 rfl rfl ?_
              refine G.iload_n E dX8_simplifies_51 3 rfl rfl ?_
              refine G.callVv (n := 2) (T := TX8) (N := 21) (C := RX8) (a := h 0) (q0 := 0) (As := [.int x1, .int x2]) E dX8_simplifies_52 (fun _ hv => c_X8_does E.wf hv) gX8_simplifies_X8_does rfl rfl rfl (by decide +kernel) ⟨Nat.le_of_ble_eq_true rfl, Nat.le_of_ble_eq_true rfl⟩ (wsM_at0 _ _ _) rfl rfl (Nat.le_of_ble_eq_true rfl) ⟨Nat.le_of_ble_eq_true rfl, Nat.le_of_ble_eq_true rfl⟩ (fun s6 => ?_)
              refine G.iconst (v := 1) E dX8_simplifies_55 (by decide) ?_
              exact G.zretc E dX8_simplifies_56 rfl rfl rfl
      · refine G.if_eq (tgt := 30) E dX8_simplifies_19 (by decide) ?_ ?_
        · refine G.aload_n E dX8_simplifies_30 0 rfl rfl ?_
          refine G.iload_n E dX8_simplifies_31 2 rfl rfl ?_
          refine G.callVi (n := 1) (T := TX8) (N := 21) (C := RX8) (a := h 0) (q0 := 0) (As := [.int x2]) E dX8_simplifies_32 (fun _ hv => c_X8_isNode E.wf hv) gX8_simplifies_X8_isNode rfl rfl rfl (by decide +kernel) ⟨Nat.le_of_ble_eq_true rfl, Nat.le_of_ble_eq_true rfl⟩ (wsM_at0 _ _ _) rfl rfl (Nat.le_of_ble_eq_true rfl) ⟨Nat.le_of_ble_eq_true rfl, Nat.le_of_ble_eq_true rfl⟩ (fun v7 => ?_)
          refine G.loc [0, 1, 2] rfl ?_
          exact hj35 v7
        · refine G.aload_n E dX8_simplifies_22 0 rfl rfl ?_
          refine G.iload_n E dX8_simplifies_23 2 rfl rfl ?_
          refine G.callVi (n := 1) (T := TX8) (N := 21) (C := RX8) (a := h 0) (q0 := 0) (As := [.int x2]) E dX8_simplifies_24 (fun _ hv => c_X8_isWire E.wf hv) gX8_simplifies_X8_isWire rfl rfl rfl (by decide +kernel) ⟨Nat.le_of_ble_eq_true rfl, Nat.le_of_ble_eq_true rfl⟩ (wsM_at0 _ _ _) rfl rfl (Nat.le_of_ble_eq_true rfl) ⟨Nat.le_of_ble_eq_true rfl, Nat.le_of_ble_eq_true rfl⟩ (fun v8 => ?_)
          refine G.goto (tgt := 35) E dX8_simplifies_27 (by decide) ?_
          refine G.loc [0, 1, 2] rfl ?_
          exact hj35 v8
noncomputable def fl_X8_simplifies_2 (N : Nat) (K : Wd → Option (Int32 × Wd)) : Nat → Int32 → Wd → Option (Int32 × Wd)
  | 0, _, _ => none
  | n + 1, x1, s0 =>
    if 3 < x1 then (
      K s0)
    else (
      fl_X8_simplifies_9 N x1 (fun s9 =>
        fl_X8_simplifies_2 N K n (x1 + 1) s9) N 0 s0)
set_option maxHeartbeats 4000000 in
set_option maxRecDepth 100000 in
theorem gl_X8_simplifies_2 {N : Nat} {K : Wd → Option (Int32 × Wd)} (E : EV p s m args meth c cX8_simplifies 4 RX8 wsX8_simplifies (some .boolean) D cy (wsM cy h) (adM h)) (hK : ∀ (s' : Wd), G p l e (headSpec wsX8_simplifies rm_X8_simplifies).room s m args below meth c 4 0 0 D (wsM cy h) (adM h) (QM D (wsM cy h) (adM h) below args s 0 0 (fun r : Int32 × Wd => some (.int r.1)) (fun r => r.2)) 69 [] [] s' (K s')) :
  ∀ (n : Nat) (x1 : Int32) (s0 : Wd), G p l e (headSpec wsX8_simplifies rm_X8_simplifies).room s m args below meth c 4 0 0 D (wsM cy h) (adM h) (QM D (wsM cy h) (adM h) below args s 0 0 (fun r : Int32 × Wd => some (.int r.1)) (fun r => r.2)) 2 [(0, .ref (h 0)), (1, .int x1)] [] s0 (fl_X8_simplifies_2 N K n x1 s0) := by
  intro n
  induction n with
  | zero => intros; exact G.no
  | succ n ih =>
    intro x1 s0
    rw [fl_X8_simplifies_2]
    refine G.iload_n E dX8_simplifies_2 1 rfl rfl ?_
    refine G.iconst (v := 3) E dX8_simplifies_3 (by decide) ?_
    refine G.icmp_gt (tgt := 69) E dX8_simplifies_4 (by decide) ?_ ?_
    · refine G.loc [] rfl ?_
      exact hK s0
    · refine G.iconst (v := 0) E dX8_simplifies_7 (by decide) ?_
      refine G.istore_n (lv' := [(2, .int 0), (0, .ref (h 0)), (1, .int x1)]) E dX8_simplifies_8 rfl (by decide) rfl ?_
      refine G.loc [1, 2, 0] rfl ?_
      refine gl_X8_simplifies_9 E (fun s9 => ?_) N _ _
      refine G.iinc (v := x1 + 1) (lv' := [(1, .int (x1 + 1)), (0, .ref (h 0))]) E dX8_simplifies_63 1 rfl rfl (by decide) rfl ?_
      refine G.goto (tgt := 2) E dX8_simplifies_66 (by decide) ?_
      refine G.loc [1, 0] rfl ?_
      exact ih (x1 + 1) s9
noncomputable def f_X8_simplifies (N : Nat) (σ : Wd) : Option (Int32 × Wd) :=
  fl_X8_simplifies_2 N (fun s10 =>
    some (0, s10)) N 0 σ
set_option maxHeartbeats 4000000 in
set_option maxRecDepth 100000 in
theorem c_X8_simplifies {l : Launch} {D : va_G} {cy : Nat → ClassId} {h : Nat → Nat} {N : Nat} {σ : Wd} {r : Int32} {σ1 : Wd} (hW : WF (wsM cy h) (adM h)) (hr : f_X8_simplifies N σ = some (r, σ1)) : Con l D cy (wsM cy h) (adM h) yX8_simplifies wsX8_simplifies rm_X8_simplifies 0 0 [.ref (h 0)] (some (.int r)) σ σ1 := by
  refine Con.of (ρ := Int32 × Wd) (lv0 := [(0, .ref (h 0))]) (σ := σ) (fun r : Int32 × Wd => some (.int r.1)) (fun r => r.2) (by decide) rfl rfl (Nat.le_of_ble_eq_true rfl) rfl hW hr (fun p e s m args below meth c E => ?_)
  unfold f_X8_simplifies
  refine G.iconst (v := 0) E dX8_simplifies_0 (by decide) ?_
  refine G.istore_n (lv' := [(1, .int 0), (0, .ref (h 0))]) E dX8_simplifies_1 rfl (by decide) rfl ?_
  refine G.loc [1, 0] rfl ?_
  refine gl_X8_simplifies_2 E (fun s10 => ?_) N _ _
  refine G.iconst (v := 0) E dX8_simplifies_69 (by decide) ?_
  exact G.zretc E dX8_simplifies_70 rfl rfl rfl
set_option maxHeartbeats 4000000 in
set_option maxRecDepth 100000 in
theorem iw_X8_simplify_8 : ∀ w ∈ u_ws RX8 TX8 21, w ∈ wsX8_simplify := fun _ h => List.mem_cons_of_mem _ (List.mem_append_right _ h)
abbrev rm_X8_simplify : Room := { frames := 6, cells := 0, slots := 0, locals := 140 }
noncomputable def fl_X8_simplify_7 {ρ : Type} (N : Nat) (K : Int32 → Wd → Option ρ) : Nat → Int32 → Wd → Option ρ
  | 0, _, _ => none
  | n + 1, x1, s0 =>
    bS (f_X8_simplifies N s0) fun v2 s3 =>
    if v2 = 0 then (
      K x1 s3)
    else (
      fl_X8_simplify_7 N K n (x1 + 1) s3)
set_option maxHeartbeats 4000000 in
set_option maxRecDepth 100000 in
theorem gl_X8_simplify_7 {ρ : Type} {Q : ρ → State → Prop} {N : Nat} {K : Int32 → Wd → Option ρ} (E : EV p s m args meth c cX8_simplify 2 RX8 wsX8_simplify (some .int) D cy (wsM cy h) (adM h)) (hK : ∀ (x1' : Int32) (s' : Wd), G p l e (headSpec wsX8_simplify rm_X8_simplify).room s m args below meth c 2 0 0 D (wsM cy h) (adM h) Q 20 [(1, .int (x1'))] [] s' (K x1' s')) :
  ∀ (n : Nat) (x1 : Int32) (s0 : Wd), G p l e (headSpec wsX8_simplify rm_X8_simplify).room s m args below meth c 2 0 0 D (wsM cy h) (adM h) Q 7 [(0, .ref (h 0)), (1, .int x1)] [] s0 (fl_X8_simplify_7 N K n x1 s0) := by
  intro n
  induction n with
  | zero => intros; exact G.no
  | succ n ih =>
    intro x1 s0
    rw [fl_X8_simplify_7]
    refine G.aload_n E dX8_simplify_7 0 rfl rfl ?_
    refine G.callVis (n := 0) (T := TX8) (N := 21) (C := RX8) (a := h 0) (q0 := 0) (As := []) E dX8_simplify_8 (fun _ _ hv => c_X8_simplifies E.wf hv) gX8_simplify_X8_simplifies rfl rfl rfl (by decide +kernel) ⟨Nat.le_of_ble_eq_true rfl, Nat.le_of_ble_eq_true rfl⟩ (wsM_at0 _ _ _) rfl rfl (Nat.le_of_ble_eq_true rfl) ⟨Nat.le_of_ble_eq_true rfl, Nat.le_of_ble_eq_true rfl⟩ (fun v2 s3 => ?_)
    refine G.if_eq (tgt := 20) E dX8_simplify_11 (by decide) ?_ ?_
    · refine G.loc [1] rfl ?_
      exact hK x1 s3
    · refine G.iinc (v := x1 + 1) (lv' := [(1, .int (x1 + 1)), (0, .ref (h 0))]) E dX8_simplify_14 1 rfl rfl (by decide) rfl ?_
      refine G.goto (tgt := 7) E dX8_simplify_17 (by decide) ?_
      refine G.loc [1, 0] rfl ?_
      exact ih (x1 + 1) s3
noncomputable def f_X8_simplify (N : Nat) (σ : Wd) : Option (Int32 × Wd) :=
  wI σ 0 0 0 fun s1 =>
  fl_X8_simplify_7 N (fun v4 s5 =>
    some (v4, s5)) N 0 s1
set_option maxHeartbeats 4000000 in
set_option maxRecDepth 100000 in
theorem c_X8_simplify {l : Launch} {D : va_G} {cy : Nat → ClassId} {h : Nat → Nat} {N : Nat} {σ : Wd} {r : Int32} {σ1 : Wd} (hW : WF (wsM cy h) (adM h)) (hr : f_X8_simplify N σ = some (r, σ1)) : Con l D cy (wsM cy h) (adM h) yX8_simplify wsX8_simplify rm_X8_simplify 0 0 [.ref (h 0)] (some (.int r)) σ σ1 := by
  refine Con.of (ρ := Int32 × Wd) (lv0 := [(0, .ref (h 0))]) (σ := σ) (fun r : Int32 × Wd => some (.int r.1)) (fun r => r.2) (by decide) rfl rfl (Nat.le_of_ble_eq_true rfl) rfl hW hr (fun p e s m args below meth c E => ?_)
  unfold f_X8_simplify
  refine G.aload_n E dX8_simplify_0 0 rfl rfl ?_
  refine G.iconst (v := 0) E dX8_simplify_1 (by decide) ?_
  refine G.putI (T := TX8) (N := 21) (C := RX8) (q0 := 0) (i := 0) (ty := .int) E dX8_simplify_2 iw_X8_simplify_8 tyX8 tyX8_ok nmX8 (wsM_at0 _ _ _) rfl (by decide) (List.mem_of_getElem? (i := 1) rfl) rfl (by decide +kernel) rfl rfl (Nat.le_of_ble_eq_true rfl) (wsM_set0_0 _ _ _ _) (fun s1 => ?_)
  refine G.iconst (v := 0) E dX8_simplify_5 (by decide) ?_
  refine G.istore_n (lv' := [(1, .int 0), (0, .ref (h 0))]) E dX8_simplify_6 rfl (by decide) rfl ?_
  refine G.loc [1, 0] rfl ?_
  refine gl_X8_simplify_7 E (fun v4 s5 => ?_) N _ _
  refine G.iload_n E dX8_simplify_20 0 rfl rfl ?_
  exact G.iret E dX8_simplify_21 rfl rfl
set_option maxHeartbeats 4000000 in
set_option maxRecDepth 100000 in
theorem iw_X8_starred_8 : ∀ w ∈ u_ws RX8 TX8 21, w ∈ wsX8_starred := fun _ h => List.mem_cons_of_mem _ (List.mem_append_right _ h)
abbrev rm_X8_starred : Room := { frames := 5, cells := 0, slots := 0, locals := 122 }
noncomputable def f_X8_starred (N : Nat) (σ : Wd) (a0 : Int32) (a1 : Int32) : Option (Int64 × Wd) :=
  bP (f_X8_isEdge N σ a0) fun v1 =>
  jn (fun (v2 : Int32) => ((
    wI σ 0 0 v2 fun s3 =>
    gI s3 0 0 fun v4 =>
    if 0 < v4 then (
      some (0, s3))
    else (
      gI s3 0 3 fun v5 =>
      gI s3 0 2 fun v6 =>
      bP (f_X8_many N (v5 &&& v6)) fun v7 =>
      if v7 = 3 then (
        bP (f_X8_others N s3 a0) fun v8 =>
        dI v8 10 fun v9 =>
        bP (f_X8_others N s3 a0) fun v10 =>
        mI v10 10 fun v11 =>
        bS (f_X8_counts N s3 2 v9 v11 0) fun v12 s13 =>
        bS (f_X8_counts N s13 2 a0 v9 0) fun v14 s15 =>
        jn (fun (v16 : Int32) (s17 : Wd) => ((
          if v16 = 0 then (
            some (0, s17))
          else (
            bS (f_X8_counts N s17 0 0 0 0) fun v18 s19 =>
            bP (f_X8_part N v18 v12 a1) fun v20 =>
            some (v20, s19))) : Option (Int64 × Wd))) fun j124 =>
        jn (fun (s21 : Wd) => ((
          j124 0 s21) : Option (Int64 × Wd))) fun j123 =>
        if (lg_cmp v14 0) ≤ 0 then (
          j123 s15)
        else (
          bS (f_X8_counts N s15 2 a0 v11 0) fun v22 s23 =>
          if (lg_cmp v22 0) ≤ 0 then (
            j123 s23)
          else (
            if (lg_cmp v12 0) ≤ 0 then (
              j123 s23)
            else (
              bS (f_X8_counts N s23 1 0 0 0) fun v24 s25 =>
              if (lg_cmp v24 0) ≤ 0 then (
                j123 s25)
              else (
                j124 1 s25)))))
      else (
        some (0, s3)))) : Option (Int64 × Wd))) fun j14 =>
  if v1 = 0 then (
    j14 1)
  else (
    j14 0)
set_option maxHeartbeats 4000000 in
set_option maxRecDepth 100000 in
theorem c_X8_starred {l : Launch} {D : va_G} {cy : Nat → ClassId} {h : Nat → Nat} {N : Nat} {σ : Wd} {a0 : Int32} {a1 : Int32} {r : Int64} {σ1 : Wd} (hW : WF (wsM cy h) (adM h)) (hr : f_X8_starred N σ a0 a1 = some (r, σ1)) : Con l D cy (wsM cy h) (adM h) yX8_starred wsX8_starred rm_X8_starred 0 0 [.ref (h 0), .int a0, .int a1] (some (.long r)) σ σ1 := by
  refine Con.of (ρ := Int64 × Wd) (lv0 := [(0, .ref (h 0)), (1, .int a0), (2, .int a1)]) (σ := σ) (fun r : Int64 × Wd => some (.long r.1)) (fun r => r.2) (by decide) rfl rfl (Nat.le_of_ble_eq_true rfl) rfl hW hr (fun p e s m args below meth c E => ?_)
  unfold f_X8_starred
  refine G.aload_n E dX8_starred_0 0 rfl rfl ?_
  refine G.aload_n E dX8_starred_1 0 rfl rfl ?_
  refine G.iload_n E dX8_starred_2 1 rfl rfl ?_
  refine G.callVi (n := 1) (T := TX8) (N := 21) (C := RX8) (a := h 0) (q0 := 0) (As := [.int a0]) E dX8_starred_3 (fun _ hv => c_X8_isEdge E.wf hv) gX8_starred_X8_isEdge rfl rfl rfl (by decide +kernel) ⟨Nat.le_of_ble_eq_true rfl, Nat.le_of_ble_eq_true rfl⟩ (wsM_at0 _ _ _) rfl rfl (Nat.le_of_ble_eq_true rfl) ⟨Nat.le_of_ble_eq_true rfl, Nat.le_of_ble_eq_true rfl⟩ (fun v1 => ?_)
  refine G.jn (P := fun j => ∀ (v2 : Int32), G p l e (headSpec wsX8_starred rm_X8_starred).room s m args below meth c 8 0 0 D (wsM cy h) (adM h) (QM D (wsM cy h) (adM h) below args s 0 0 (fun r : Int64 × Wd => some (.long r.1)) (fun r => r.2)) 14 [(0, .ref (h 0)), (1, .int a0), (2, .int a1)] [.int v2, .ref (h 0)] σ (j v2)) ?_ (fun j14 hj14 => ?_)
  · intro v2
    refine G.putI (T := TX8) (N := 21) (C := RX8) (q0 := 0) (i := 0) (ty := .int) E dX8_starred_14 iw_X8_starred_8 tyX8 tyX8_ok nmX8 (wsM_at0 _ _ _) rfl (by decide) (List.mem_of_getElem? (i := 1) rfl) rfl (by decide +kernel) rfl rfl (Nat.le_of_ble_eq_true rfl) (wsM_set0_0 _ _ _ _) (fun s3 => ?_)
    refine G.aload_n E dX8_starred_17 0 rfl rfl ?_
    refine G.getI (T := TX8) (N := 21) (C := RX8) (q0 := 0) (i := 0) E dX8_starred_18 iw_X8_starred_8 (wsM_at0 _ _ _) rfl (by decide) rfl (List.mem_of_getElem? (i := 1) rfl) (fun v4 => ?_)
    refine G.if_gt (tgt := 40) E dX8_starred_21 (by decide) ?_ ?_
    · refine G.lconst (v := 0) E dX8_starred_40 (by decide) ?_
      exact G.lret E dX8_starred_41 rfl rfl
    · refine G.aload_n E dX8_starred_24 0 rfl rfl ?_
      refine G.getI (T := TX8) (N := 21) (C := RX8) (q0 := 0) (i := 3) E dX8_starred_25 iw_X8_starred_8 (wsM_at0 _ _ _) rfl (by decide) rfl (List.mem_of_getElem? (i := 2) rfl) (fun v5 => ?_)
      refine G.aload_n E dX8_starred_28 0 rfl rfl ?_
      refine G.getI (T := TX8) (N := 21) (C := RX8) (q0 := 0) (i := 2) E dX8_starred_29 iw_X8_starred_8 (wsM_at0 _ _ _) rfl (by decide) rfl (List.mem_of_getElem? (i := 3) rfl) (fun v6 => ?_)
      refine G.iand E dX8_starred_32 ?_
      refine G.callSi (n := 1) (As := [.int (v5 &&& v6)]) E dX8_starred_33 (fun _ hv => c_X8_many E.wf hv) gX8_starred_X8_many rfl rfl rfl (by decide +kernel) ⟨Nat.le_of_ble_eq_true rfl, Nat.le_of_ble_eq_true rfl⟩ rfl (Nat.le_of_ble_eq_true rfl) ⟨Nat.le_of_ble_eq_true rfl, Nat.le_of_ble_eq_true rfl⟩ (fun v7 => ?_)
      refine G.iconst (v := 3) E dX8_starred_36 (by decide) ?_
      refine G.icmp_eq (tgt := 42) E dX8_starred_37 (by decide) ?_ ?_
      · refine G.aload_n E dX8_starred_42 0 rfl rfl ?_
        refine G.iload_n E dX8_starred_43 1 rfl rfl ?_
        refine G.callVi (n := 1) (T := TX8) (N := 21) (C := RX8) (a := h 0) (q0 := 0) (As := [.int a0]) E dX8_starred_44 (fun _ hv => c_X8_others E.wf hv) gX8_starred_X8_others rfl rfl rfl (by decide +kernel) ⟨Nat.le_of_ble_eq_true rfl, Nat.le_of_ble_eq_true rfl⟩ (wsM_at0 _ _ _) rfl rfl (Nat.le_of_ble_eq_true rfl) ⟨Nat.le_of_ble_eq_true rfl, Nat.le_of_ble_eq_true rfl⟩ (fun v8 => ?_)
        refine G.bipush (v := 10) E dX8_starred_47 (by decide) ?_
        refine G.idiv E dX8_starred_49 (fun v9 => ?_)
        refine G.istore_n (lv' := [(3, .int v9), (0, .ref (h 0)), (1, .int a0), (2, .int a1)]) E dX8_starred_50 rfl (by decide) rfl ?_
        refine G.aload_n E dX8_starred_51 1 rfl rfl ?_
        refine G.iload_n E dX8_starred_52 2 rfl rfl ?_
        refine G.callVi (n := 1) (T := TX8) (N := 21) (C := RX8) (a := h 0) (q0 := 0) (As := [.int a0]) E dX8_starred_53 (fun _ hv => c_X8_others E.wf hv) gX8_starred_X8_others rfl rfl rfl (by decide +kernel) ⟨Nat.le_of_ble_eq_true rfl, Nat.le_of_ble_eq_true rfl⟩ (wsM_at0 _ _ _) rfl rfl (Nat.le_of_ble_eq_true rfl) ⟨Nat.le_of_ble_eq_true rfl, Nat.le_of_ble_eq_true rfl⟩ (fun v10 => ?_)
        refine G.bipush (v := 10) E dX8_starred_56 (by decide) ?_
        refine G.irem E dX8_starred_58 (fun v11 => ?_)
        refine G.istore (lv' := [(4, .int v11), (3, .int v9), (0, .ref (h 0)), (1, .int a0), (2, .int a1)]) E dX8_starred_59 (by decide) rfl ?_
        refine G.aload_n E dX8_starred_61 2 rfl rfl ?_
        refine G.iconst (v := 2) E dX8_starred_62 (by decide) ?_
        refine G.iload_n E dX8_starred_63 1 rfl rfl ?_
        refine G.iload E dX8_starred_64 0 rfl ?_
        refine G.iconst (v := 0) E dX8_starred_66 (by decide) ?_
        refine G.callVls (n := 4) (T := TX8) (N := 21) (C := RX8) (a := h 0) (q0 := 0) (As := [.int 2, .int v9, .int v11, .int 0]) E dX8_starred_67 (fun _ _ hv => c_X8_counts E.wf hv) gX8_starred_X8_counts rfl rfl rfl (by decide +kernel) ⟨Nat.le_of_ble_eq_true rfl, Nat.le_of_ble_eq_true rfl⟩ (wsM_at0 _ _ _) rfl rfl (Nat.le_of_ble_eq_true rfl) ⟨Nat.le_of_ble_eq_true rfl, Nat.le_of_ble_eq_true rfl⟩ (fun v12 s13 => ?_)
        refine G.lstore (lv' := [(5, .long v12), (4, .int v11), (3, .int v9), (0, .ref (h 0)), (1, .int a0), (2, .int a1)]) E dX8_starred_70 (by decide) rfl ?_
        refine G.aload_n E dX8_starred_72 3 rfl rfl ?_
        refine G.iconst (v := 2) E dX8_starred_73 (by decide) ?_
        refine G.iload_n E dX8_starred_74 4 rfl rfl ?_
        refine G.iload_n E dX8_starred_75 2 rfl rfl ?_
        refine G.iconst (v := 0) E dX8_starred_76 (by decide) ?_
        refine G.callVls (n := 4) (T := TX8) (N := 21) (C := RX8) (a := h 0) (q0 := 0) (As := [.int 2, .int a0, .int v9, .int 0]) E dX8_starred_77 (fun _ _ hv => c_X8_counts E.wf hv) gX8_starred_X8_counts rfl rfl rfl (by decide +kernel) ⟨Nat.le_of_ble_eq_true rfl, Nat.le_of_ble_eq_true rfl⟩ (wsM_at0 _ _ _) rfl rfl (Nat.le_of_ble_eq_true rfl) ⟨Nat.le_of_ble_eq_true rfl, Nat.le_of_ble_eq_true rfl⟩ (fun v14 s15 => ?_)
        refine G.lconst (v := 0) E dX8_starred_80 (by decide) ?_
        refine G.lcmp E dX8_starred_81 ?_
        refine G.jn (P := fun j => ∀ (v16 : Int32) (s17 : Wd), G p l e (headSpec wsX8_starred rm_X8_starred).room s m args below meth c 8 0 0 D (wsM cy h) (adM h) (QM D (wsM cy h) (adM h) below args s 0 0 (fun r : Int64 × Wd => some (.long r.1)) (fun r => r.2)) 124 [(0, .ref (h 0)), (2, .int a1), (5, .long v12)] [.int v16] s17 (j v16 s17)) ?_ (fun j124 hj124 => ?_)
        · intro v16 s17
          refine G.istore (lv' := [(7, .int v16), (0, .ref (h 0)), (2, .int a1), (5, .long v12)]) E dX8_starred_124 (by decide) rfl ?_
          refine G.iload E dX8_starred_126 0 rfl ?_
          refine G.if_eq (tgt := 148) E dX8_starred_128 (by decide) ?_ ?_
          · refine G.lconst (v := 0) E dX8_starred_148 (by decide) ?_
            exact G.lret E dX8_starred_149 rfl rfl
          · refine G.aload_n E dX8_starred_131 1 rfl rfl ?_
            refine G.iconst (v := 0) E dX8_starred_132 (by decide) ?_
            refine G.iconst (v := 0) E dX8_starred_133 (by decide) ?_
            refine G.iconst (v := 0) E dX8_starred_134 (by decide) ?_
            refine G.iconst (v := 0) E dX8_starred_135 (by decide) ?_
            refine G.callVls (n := 4) (T := TX8) (N := 21) (C := RX8) (a := h 0) (q0 := 0) (As := [.int 0, .int 0, .int 0, .int 0]) E dX8_starred_136 (fun _ _ hv => c_X8_counts E.wf hv) gX8_starred_X8_counts rfl rfl rfl (by decide +kernel) ⟨Nat.le_of_ble_eq_true rfl, Nat.le_of_ble_eq_true rfl⟩ (wsM_at0 _ _ _) rfl rfl (Nat.le_of_ble_eq_true rfl) ⟨Nat.le_of_ble_eq_true rfl, Nat.le_of_ble_eq_true rfl⟩ (fun v18 s19 => ?_)
            refine G.lload E dX8_starred_139 3 rfl ?_
            refine G.iload_n E dX8_starred_141 2 rfl rfl ?_
            refine G.callSl (n := 3) (As := [.long v18, .long v12, .int a1]) E dX8_starred_142 (fun _ hv => c_X8_part E.wf hv) gX8_starred_X8_part rfl rfl rfl (by decide +kernel) ⟨Nat.le_of_ble_eq_true rfl, Nat.le_of_ble_eq_true rfl⟩ rfl (Nat.le_of_ble_eq_true rfl) ⟨Nat.le_of_ble_eq_true rfl, Nat.le_of_ble_eq_true rfl⟩ (fun v20 => ?_)
            refine G.goto (tgt := 149) E dX8_starred_145 (by decide) ?_
            exact G.lret E dX8_starred_149 rfl rfl
        · refine G.jn (P := fun j => ∀ (s21 : Wd), G p l e (headSpec wsX8_starred rm_X8_starred).room s m args below meth c 8 0 0 D (wsM cy h) (adM h) (QM D (wsM cy h) (adM h) below args s 0 0 (fun r : Int64 × Wd => some (.long r.1)) (fun r => r.2)) 123 [(0, .ref (h 0)), (2, .int a1), (5, .long v12)] [] s21 (j s21)) ?_ (fun j123 hj123 => ?_)
          · intro s21
            refine G.iconst (v := 0) E dX8_starred_123 (by decide) ?_
            refine G.loc [0, 1, 2] rfl ?_
            exact hj124 0 s21
          · refine G.if_le (tgt := 123) E dX8_starred_82 (by decide) ?_ ?_
            · refine G.loc [3, 5, 0] rfl ?_
              exact hj123 s15
            · refine G.aload_n E dX8_starred_85 3 rfl rfl ?_
              refine G.iconst (v := 2) E dX8_starred_86 (by decide) ?_
              refine G.iload_n E dX8_starred_87 4 rfl rfl ?_
              refine G.iload E dX8_starred_88 1 rfl ?_
              refine G.iconst (v := 0) E dX8_starred_90 (by decide) ?_
              refine G.callVls (n := 4) (T := TX8) (N := 21) (C := RX8) (a := h 0) (q0 := 0) (As := [.int 2, .int a0, .int v11, .int 0]) E dX8_starred_91 (fun _ _ hv => c_X8_counts E.wf hv) gX8_starred_X8_counts rfl rfl rfl (by decide +kernel) ⟨Nat.le_of_ble_eq_true rfl, Nat.le_of_ble_eq_true rfl⟩ (wsM_at0 _ _ _) rfl rfl (Nat.le_of_ble_eq_true rfl) ⟨Nat.le_of_ble_eq_true rfl, Nat.le_of_ble_eq_true rfl⟩ (fun v22 s23 => ?_)
              refine G.lconst (v := 0) E dX8_starred_94 (by decide) ?_
              refine G.lcmp E dX8_starred_95 ?_
              refine G.if_le (tgt := 123) E dX8_starred_96 (by decide) ?_ ?_
              · refine G.loc [3, 5, 0] rfl ?_
                exact hj123 s23
              · refine G.lload E dX8_starred_99 0 rfl ?_
                refine G.lconst (v := 0) E dX8_starred_101 (by decide) ?_
                refine G.lcmp E dX8_starred_102 ?_
                refine G.if_le (tgt := 123) E dX8_starred_103 (by decide) ?_ ?_
                · refine G.loc [3, 5, 0] rfl ?_
                  exact hj123 s23
                · refine G.aload_n E dX8_starred_106 3 rfl rfl ?_
                  refine G.iconst (v := 1) E dX8_starred_107 (by decide) ?_
                  refine G.iconst (v := 0) E dX8_starred_108 (by decide) ?_
                  refine G.iconst (v := 0) E dX8_starred_109 (by decide) ?_
                  refine G.iconst (v := 0) E dX8_starred_110 (by decide) ?_
                  refine G.callVls (n := 4) (T := TX8) (N := 21) (C := RX8) (a := h 0) (q0 := 0) (As := [.int 1, .int 0, .int 0, .int 0]) E dX8_starred_111 (fun _ _ hv => c_X8_counts E.wf hv) gX8_starred_X8_counts rfl rfl rfl (by decide +kernel) ⟨Nat.le_of_ble_eq_true rfl, Nat.le_of_ble_eq_true rfl⟩ (wsM_at0 _ _ _) rfl rfl (Nat.le_of_ble_eq_true rfl) ⟨Nat.le_of_ble_eq_true rfl, Nat.le_of_ble_eq_true rfl⟩ (fun v24 s25 => ?_)
                  refine G.lconst (v := 0) E dX8_starred_114 (by decide) ?_
                  refine G.lcmp E dX8_starred_115 ?_
                  refine G.if_le (tgt := 123) E dX8_starred_116 (by decide) ?_ ?_
                  · refine G.loc [3, 5, 0] rfl ?_
                    exact hj123 s25
                  · refine G.iconst (v := 1) E dX8_starred_119 (by decide) ?_
                    refine G.goto (tgt := 124) E dX8_starred_120 (by decide) ?_
                    refine G.loc [3, 5, 0] rfl ?_
                    exact hj124 1 s25
      · refine G.lconst (v := 0) E dX8_starred_40 (by decide) ?_
        exact G.lret E dX8_starred_41 rfl rfl
  · refine G.if_eq (tgt := 13) E dX8_starred_6 (by decide) ?_ ?_
    · refine G.iconst (v := 1) E dX8_starred_13 (by decide) ?_
      refine G.loc [0, 1, 2] rfl ?_
      exact hj14 1
    · refine G.iconst (v := 0) E dX8_starred_9 (by decide) ?_
      refine G.goto (tgt := 14) E dX8_starred_10 (by decide) ?_
      refine G.loc [0, 1, 2] rfl ?_
      exact hj14 0
set_option maxHeartbeats 4000000 in
set_option maxRecDepth 100000 in
theorem iw_X8_thrown_8 : ∀ w ∈ u_ws RX8 TX8 21, w ∈ wsX8_thrown := fun _ h => List.mem_cons_of_mem _ (List.mem_append_right _ h)
abbrev rm_X8_thrown : Room := { frames := 0, cells := 0, slots := 0, locals := 0 }
noncomputable def f_X8_thrown (N : Nat) (σ : Wd) : Option (Int32) :=
  gI σ 0 0 fun v1 =>
  some v1
set_option maxHeartbeats 4000000 in
set_option maxRecDepth 100000 in
theorem c_X8_thrown {l : Launch} {D : va_G} {cy : Nat → ClassId} {h : Nat → Nat} {N : Nat} {σ : Wd} {r : Int32} (hW : WF (wsM cy h) (adM h)) (hr : f_X8_thrown N σ = some r) : Con l D cy (wsM cy h) (adM h) yX8_thrown wsX8_thrown rm_X8_thrown 0 0 [.ref (h 0)] (some (.int r)) σ σ := by
  refine Con.of (ρ := Int32) (lv0 := [(0, .ref (h 0))]) (σ := σ) (fun r : Int32 => some (.int r)) (fun _ => σ) (by decide) rfl rfl (Nat.le_of_ble_eq_true rfl) rfl hW hr (fun p e s m args below meth c E => ?_)
  unfold f_X8_thrown
  refine G.aload_n E dX8_thrown_0 0 rfl rfl ?_
  refine G.getI (T := TX8) (N := 21) (C := RX8) (q0 := 0) (i := 0) E dX8_thrown_1 iw_X8_thrown_8 (wsM_at0 _ _ _) rfl (by decide) rfl (List.mem_of_getElem? (i := 1) rfl) (fun v1 => ?_)
  exact G.iret E dX8_thrown_4 rfl rfl
set_option maxHeartbeats 4000000 in
set_option maxRecDepth 100000 in
theorem iw_X8_tree_8 : ∀ w ∈ u_ws RX8 TX8 21, w ∈ wsX8_tree := fun _ h => List.mem_cons_of_mem _ (List.mem_append_right _ h)
abbrev rm_X8_tree : Room := { frames := 2, cells := 0, slots := 0, locals := 48 }
noncomputable def fl_X8_tree_29 (N : Nat) (x1 : Int32) (K : Wd → Option (Int32 × Wd)) : Nat → Int32 → Int32 → Int32 → Wd → Option (Int32 × Wd)
  | 0, _, _, _, _ => none
  | n + 1, x2, x3, x4, s0 =>
    if x4 = 0 then (
      K s0)
    else (
      bS (f_X8_weightOf N s0 x3) fun v4 s5 =>
      jn (fun (v6 : Int32) => ((
        bP (f_X8_setBehind N s5 x3) fun v7 =>
        jn (fun (v8 : Int32) => ((
          fl_X8_tree_29 N x1 K n v6 v7 v8 s5) : Option (Int32 × Wd))) fun j85 =>
        if v7 = 0 then (
          j85 0)
        else (
          j85 1)) : Option (Int32 × Wd))) fun j70 =>
      if (lg_cmp v4 0) ≤ 0 then (
        j70 x2)
      else (
        gI s5 0 2 fun v9 =>
        bP (f_X8_many N v9) fun v10 =>
        bP (f_X8_many N x3) fun v11 =>
        if (v10 - v11) = 1 then (
          if x2 = x1 then (
            some (x3, s5))
          else (
            j70 (x2 + 1)))
        else (
          j70 x2)))
set_option maxHeartbeats 4000000 in
set_option maxRecDepth 100000 in
theorem gl_X8_tree_29 {N : Nat} {x1 : Int32} {K : Wd → Option (Int32 × Wd)} (E : EV p s m args meth c cX8_tree 5 RX8 wsX8_tree (some .int) D cy (wsM cy h) (adM h)) (hK : ∀ (s' : Wd), G p l e (headSpec wsX8_tree rm_X8_tree).room s m args below meth c 5 0 0 D (wsM cy h) (adM h) (QM D (wsM cy h) (adM h) below args s 0 0 (fun r : Int32 × Wd => some (.int r.1)) (fun r => r.2)) 90 [] [] s' (K s')) :
  ∀ (n : Nat) (x2 : Int32) (x3 : Int32) (x4 : Int32) (s0 : Wd), G p l e (headSpec wsX8_tree rm_X8_tree).room s m args below meth c 5 0 0 D (wsM cy h) (adM h) (QM D (wsM cy h) (adM h) below args s 0 0 (fun r : Int32 × Wd => some (.int r.1)) (fun r => r.2)) 29 [(0, .ref (h 0)), (1, .int x1), (2, .int x2), (3, .int x3), (4, .int x4)] [] s0 (fl_X8_tree_29 N x1 K n x2 x3 x4 s0) := by
  intro n
  induction n with
  | zero => intros; exact G.no
  | succ n ih =>
    intro x2 x3 x4 s0
    rw [fl_X8_tree_29]
    refine G.iload E dX8_tree_29 4 rfl ?_
    refine G.if_eq (tgt := 90) E dX8_tree_31 (by decide) ?_ ?_
    · refine G.loc [] rfl ?_
      exact hK s0
    · refine G.aload_n E dX8_tree_34 0 rfl rfl ?_
      refine G.iload_n E dX8_tree_35 3 rfl rfl ?_
      refine G.callVls (n := 1) (T := TX8) (N := 21) (C := RX8) (a := h 0) (q0 := 0) (As := [.int x3]) E dX8_tree_36 (fun _ _ hv => c_X8_weightOf E.wf hv) gX8_tree_X8_weightOf rfl rfl rfl (by decide +kernel) ⟨Nat.le_of_ble_eq_true rfl, Nat.le_of_ble_eq_true rfl⟩ (wsM_at0 _ _ _) rfl rfl (Nat.le_of_ble_eq_true rfl) ⟨Nat.le_of_ble_eq_true rfl, Nat.le_of_ble_eq_true rfl⟩ (fun v4 s5 => ?_)
      refine G.lconst (v := 0) E dX8_tree_39 (by decide) ?_
      refine G.lcmp E dX8_tree_40 ?_
      refine G.jn (P := fun j => ∀ (v6 : Int32), G p l e (headSpec wsX8_tree rm_X8_tree).room s m args below meth c 5 0 0 D (wsM cy h) (adM h) (QM D (wsM cy h) (adM h) below args s 0 0 (fun r : Int32 × Wd => some (.int r.1)) (fun r => r.2)) 70 [(0, .ref (h 0)), (1, .int x1), (2, .int v6), (3, .int x3)] [] s5 (j v6)) ?_ (fun j70 hj70 => ?_)
      · intro v6
        refine G.aload_n E dX8_tree_70 0 rfl rfl ?_
        refine G.iload_n E dX8_tree_71 3 rfl rfl ?_
        refine G.callVi (n := 1) (T := TX8) (N := 21) (C := RX8) (a := h 0) (q0 := 0) (As := [.int x3]) E dX8_tree_72 (fun _ hv => c_X8_setBehind E.wf hv) gX8_tree_X8_setBehind rfl rfl rfl (by decide +kernel) ⟨Nat.le_of_ble_eq_true rfl, Nat.le_of_ble_eq_true rfl⟩ (wsM_at0 _ _ _) rfl rfl (Nat.le_of_ble_eq_true rfl) ⟨Nat.le_of_ble_eq_true rfl, Nat.le_of_ble_eq_true rfl⟩ (fun v7 => ?_)
        refine G.istore_n (lv' := [(3, .int v7), (0, .ref (h 0)), (1, .int x1), (2, .int v6)]) E dX8_tree_75 rfl (by decide) rfl ?_
        refine G.iload_n E dX8_tree_76 0 rfl rfl ?_
        refine G.jn (P := fun j => ∀ (v8 : Int32), G p l e (headSpec wsX8_tree rm_X8_tree).room s m args below meth c 5 0 0 D (wsM cy h) (adM h) (QM D (wsM cy h) (adM h) below args s 0 0 (fun r : Int32 × Wd => some (.int r.1)) (fun r => r.2)) 85 [(0, .ref (h 0)), (1, .int x1), (2, .int v6), (3, .int v7)] [.int v8] s5 (j v8)) ?_ (fun j85 hj85 => ?_)
        · intro v8
          refine G.istore (lv' := [(4, .int v8), (0, .ref (h 0)), (1, .int x1), (2, .int v6), (3, .int v7)]) E dX8_tree_85 (by decide) rfl ?_
          refine G.goto (tgt := 29) E dX8_tree_87 (by decide) ?_
          refine G.loc [1, 2, 3, 4, 0] rfl ?_
          exact ih v6 v7 v8 s5
        · refine G.if_eq (tgt := 84) E dX8_tree_77 (by decide) ?_ ?_
          · refine G.iconst (v := 0) E dX8_tree_84 (by decide) ?_
            refine G.loc [1, 2, 3, 0] rfl ?_
            exact hj85 0
          · refine G.iconst (v := 1) E dX8_tree_80 (by decide) ?_
            refine G.goto (tgt := 85) E dX8_tree_81 (by decide) ?_
            refine G.loc [1, 2, 3, 0] rfl ?_
            exact hj85 1
      · refine G.if_le (tgt := 70) E dX8_tree_41 (by decide) ?_ ?_
        · refine G.loc [0, 1, 2, 3] rfl ?_
          exact hj70 x2
        · refine G.aload_n E dX8_tree_44 0 rfl rfl ?_
          refine G.getI (T := TX8) (N := 21) (C := RX8) (q0 := 0) (i := 2) E dX8_tree_45 iw_X8_tree_8 (wsM_at0 _ _ _) rfl (by decide) rfl (List.mem_of_getElem? (i := 2) rfl) (fun v9 => ?_)
          refine G.callSi (n := 1) (As := [.int v9]) E dX8_tree_48 (fun _ hv => c_X8_many E.wf hv) gX8_tree_X8_many rfl rfl rfl (by decide +kernel) ⟨Nat.le_of_ble_eq_true rfl, Nat.le_of_ble_eq_true rfl⟩ rfl (Nat.le_of_ble_eq_true rfl) ⟨Nat.le_of_ble_eq_true rfl, Nat.le_of_ble_eq_true rfl⟩ (fun v10 => ?_)
          refine G.iload_n E dX8_tree_51 3 rfl rfl ?_
          refine G.callSi (n := 1) (As := [.int x3]) E dX8_tree_52 (fun _ hv => c_X8_many E.wf hv) gX8_tree_X8_many rfl rfl rfl (by decide +kernel) ⟨Nat.le_of_ble_eq_true rfl, Nat.le_of_ble_eq_true rfl⟩ rfl (Nat.le_of_ble_eq_true rfl) ⟨Nat.le_of_ble_eq_true rfl, Nat.le_of_ble_eq_true rfl⟩ (fun v11 => ?_)
          refine G.isub E dX8_tree_55 ?_
          refine G.iconst (v := 1) E dX8_tree_56 (by decide) ?_
          refine G.icmp_ne (tgt := 70) E dX8_tree_57 (by decide) ?_ ?_
          · refine G.iload_n E dX8_tree_60 2 rfl rfl ?_
            refine G.iload_n E dX8_tree_61 1 rfl rfl ?_
            refine G.icmp_ne (tgt := 67) E dX8_tree_62 (by decide) ?_ ?_
            · refine G.iload_n E dX8_tree_65 3 rfl rfl ?_
              exact G.iret E dX8_tree_66 rfl rfl
            · refine G.iinc (v := x2 + 1) (lv' := [(2, .int (x2 + 1)), (0, .ref (h 0)), (1, .int x1), (3, .int x3), (4, .int x4)]) E dX8_tree_67 2 rfl rfl (by decide) rfl ?_
              refine G.loc [1, 2, 0, 3] rfl ?_
              exact hj70 (x2 + 1)
          · refine G.loc [0, 1, 2, 3] rfl ?_
            exact hj70 x2
noncomputable def f_X8_tree (N : Nat) (σ : Wd) (a0 : Int32) : Option (Int32 × Wd) :=
  jn (fun (v1 : Int32) => ((
    wI σ 0 0 v1 fun s2 =>
    gI s2 0 0 fun v3 =>
    if v3 ≤ 0 then (
      fl_X8_tree_29 N a0 (fun s12 =>
        some ((-1), s12)) N 0 0 1 s2)
    else (
      some (0, s2))) : Option (Int32 × Wd))) fun j10 =>
  if a0 < 0 then (
    j10 1)
  else (
    j10 0)
set_option maxHeartbeats 4000000 in
set_option maxRecDepth 100000 in
theorem c_X8_tree {l : Launch} {D : va_G} {cy : Nat → ClassId} {h : Nat → Nat} {N : Nat} {σ : Wd} {a0 : Int32} {r : Int32} {σ1 : Wd} (hW : WF (wsM cy h) (adM h)) (hr : f_X8_tree N σ a0 = some (r, σ1)) : Con l D cy (wsM cy h) (adM h) yX8_tree wsX8_tree rm_X8_tree 0 0 [.ref (h 0), .int a0] (some (.int r)) σ σ1 := by
  refine Con.of (ρ := Int32 × Wd) (lv0 := [(0, .ref (h 0)), (1, .int a0)]) (σ := σ) (fun r : Int32 × Wd => some (.int r.1)) (fun r => r.2) (by decide) rfl rfl (Nat.le_of_ble_eq_true rfl) rfl hW hr (fun p e s m args below meth c E => ?_)
  unfold f_X8_tree
  refine G.aload_n E dX8_tree_0 0 rfl rfl ?_
  refine G.iload_n E dX8_tree_1 1 rfl rfl ?_
  refine G.jn (P := fun j => ∀ (v1 : Int32), G p l e (headSpec wsX8_tree rm_X8_tree).room s m args below meth c 5 0 0 D (wsM cy h) (adM h) (QM D (wsM cy h) (adM h) below args s 0 0 (fun r : Int32 × Wd => some (.int r.1)) (fun r => r.2)) 10 [(0, .ref (h 0)), (1, .int a0)] [.int v1, .ref (h 0)] σ (j v1)) ?_ (fun j10 hj10 => ?_)
  · intro v1
    refine G.putI (T := TX8) (N := 21) (C := RX8) (q0 := 0) (i := 0) (ty := .int) E dX8_tree_10 iw_X8_tree_8 tyX8 tyX8_ok nmX8 (wsM_at0 _ _ _) rfl (by decide) (List.mem_of_getElem? (i := 1) rfl) rfl (by decide +kernel) rfl rfl (Nat.le_of_ble_eq_true rfl) (wsM_set0_0 _ _ _ _) (fun s2 => ?_)
    refine G.aload_n E dX8_tree_13 0 rfl rfl ?_
    refine G.getI (T := TX8) (N := 21) (C := RX8) (q0 := 0) (i := 0) E dX8_tree_14 iw_X8_tree_8 (wsM_at0 _ _ _) rfl (by decide) rfl (List.mem_of_getElem? (i := 1) rfl) (fun v3 => ?_)
    refine G.if_le (tgt := 22) E dX8_tree_17 (by decide) ?_ ?_
    · refine G.iconst (v := 0) E dX8_tree_22 (by decide) ?_
      refine G.istore_n (lv' := [(2, .int 0), (0, .ref (h 0)), (1, .int a0)]) E dX8_tree_23 rfl (by decide) rfl ?_
      refine G.iconst (v := 0) E dX8_tree_24 (by decide) ?_
      refine G.istore_n (lv' := [(3, .int 0), (2, .int 0), (0, .ref (h 0)), (1, .int a0)]) E dX8_tree_25 rfl (by decide) rfl ?_
      refine G.iconst (v := 1) E dX8_tree_26 (by decide) ?_
      refine G.istore (lv' := [(4, .int 1), (3, .int 0), (2, .int 0), (0, .ref (h 0)), (1, .int a0)]) E dX8_tree_27 (by decide) rfl ?_
      refine G.loc [3, 4, 2, 1, 0] rfl ?_
      refine gl_X8_tree_29 E (fun s12 => ?_) N _ _ _ _
      refine G.iconst (v := (-1)) E dX8_tree_90 (by decide) ?_
      exact G.iret E dX8_tree_91 rfl rfl
    · refine G.iconst (v := 0) E dX8_tree_20 (by decide) ?_
      exact G.iret E dX8_tree_21 rfl rfl
  · refine G.if_lt (tgt := 9) E dX8_tree_2 (by decide) ?_ ?_
    · refine G.iconst (v := 1) E dX8_tree_9 (by decide) ?_
      refine G.loc [0, 1] rfl ?_
      exact hj10 1
    · refine G.iconst (v := 0) E dX8_tree_5 (by decide) ?_
      refine G.goto (tgt := 10) E dX8_tree_6 (by decide) ?_
      refine G.loc [0, 1] rfl ?_
      exact hj10 0
end TR
