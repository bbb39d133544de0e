section TR
variable {p : Program} {l : Launch} {e : Env} {s : State} {m : MethodId} {args : Array Value} {below : List Frame} {meth : Method} {c : Code} {D : va_G} {cy : Nat → ClassId} {h : Nat → Nat}

set_option maxHeartbeats 4000000 in
set_option maxRecDepth 100000 in
theorem iw_X8_setBehind_8 : ∀ w ∈ u_ws RX8 TX8 21, w ∈ wsX8_setBehind := fun _ h => List.mem_cons_of_mem _ (List.mem_append_right _ h)
abbrev rm_X8_setBehind : Room := { frames := 0, cells := 0, slots := 0, locals := 0 }
noncomputable def f_X8_setBehind (N : Nat) (σ : Wd) (a0 : Int32) : Option (Int32) :=
  gI σ 0 5 fun v1 =>
  gI σ 0 5 fun v2 =>
  some ((a0 - v1) &&& v2)
set_option maxHeartbeats 4000000 in
set_option maxRecDepth 100000 in
theorem c_X8_setBehind {l : Launch} {D : va_G} {cy : Nat → ClassId} {h : Nat → Nat} {N : Nat} {σ : Wd} {a0 : Int32} {r : Int32} (hW : WF (wsM cy h) (adM h)) (hr : f_X8_setBehind N σ a0 = some r) : Con l D cy (wsM cy h) (adM h) yX8_setBehind wsX8_setBehind rm_X8_setBehind 0 0 [.ref (h 0), .int a0] (some (.int r)) σ σ := by
  refine Con.of (ρ := Int32) (lv0 := [(0, .ref (h 0)), (1, .int a0)]) (σ := σ) (fun r : Int32 => some (.int r)) (fun _ => σ) (by decide) rfl rfl (Nat.le_of_ble_eq_true rfl) rfl hW hr (fun p e s m args below meth c E => ?_)
  unfold f_X8_setBehind
  refine G.iload_n E dX8_setBehind_0 1 rfl rfl ?_
  refine G.aload_n E dX8_setBehind_1 0 rfl rfl ?_
  refine G.getI (T := TX8) (N := 21) (C := RX8) (q0 := 0) (i := 5) E dX8_setBehind_2 iw_X8_setBehind_8 (wsM_at0 _ _ _) rfl (by decide) rfl (List.mem_of_getElem? (i := 1) rfl) (fun v1 => ?_)
  refine G.isub E dX8_setBehind_5 ?_
  refine G.aload_n E dX8_setBehind_6 0 rfl rfl ?_
  refine G.getI (T := TX8) (N := 21) (C := RX8) (q0 := 0) (i := 5) E dX8_setBehind_7 iw_X8_setBehind_8 (wsM_at0 _ _ _) rfl (by decide) rfl (List.mem_of_getElem? (i := 1) rfl) (fun v2 => ?_)
  refine G.iand E dX8_setBehind_10 ?_
  exact G.iret E dX8_setBehind_11 rfl rfl
set_option maxHeartbeats 4000000 in
set_option maxRecDepth 100000 in
theorem iw_X8_counts_8 : ∀ w ∈ u_ws RX8 TX8 21, w ∈ wsX8_counts := fun _ h => List.mem_cons_of_mem _ (List.mem_append_right _ h)
abbrev rm_X8_counts : Room := { frames := 4, cells := 0, slots := 0, locals := 92 }
noncomputable def fl_X8_counts_9 {ρ : Type} (N : Nat) (x1 : Int32) (x2 : Int32) (x3 : Int32) (x4 : Int32) (K : Int64 → Wd → Option ρ) : Nat → Int64 → Int32 → Int32 → Wd → Option ρ
  | 0, _, _, _, _ => none
  | n + 1, x5, x7, x8, s0 =>
    if x8 = 0 then (
      K x5 s0)
    else (
      bS (f_X8_weightOf N s0 x7) fun v1 s2 =>
      jn (fun (v3 : Int64) (s4 : Wd) => ((
        bP (f_X8_setBehind N s4 x7) fun v5 =>
        jn (fun (v6 : Int32) => ((
          fl_X8_counts_9 N x1 x2 x3 x4 K n v3 v5 v6 s4) : Option (ρ))) fun j79 =>
        if v5 = 0 then (
          j79 0)
        else (
          j79 1)) : Option (ρ))) fun j61 =>
      if (lg_cmp v1 0) ≤ 0 then (
        j61 x5 s2)
      else (
        gI s2 0 2 fun v7 =>
        bP (f_X8_many N v7) fun v8 =>
        bP (f_X8_many N x7) fun v9 =>
        bS (f_X8_isOf N s2 (v8 - v9) x1 x2 x3 x4) fun v10 s11 =>
        if v10 = 0 then (
          j61 x5 s11)
        else (
          lL (x5 + v1) fun v12 =>
          j61 v12 s11)))
set_option maxHeartbeats 4000000 in
set_option maxRecDepth 100000 in
theorem gl_X8_counts_9 {ρ : Type} {Q : ρ → State → Prop} {N : Nat} {x1 : Int32} {x2 : Int32} {x3 : Int32} {x4 : Int32} {K : Int64 → Wd → Option ρ} (E : EV p s m args meth c cX8_counts 11 RX8 wsX8_counts (some .long) D cy (wsM cy h) (adM h)) (hK : ∀ (x5' : Int64) (s' : Wd), G p l e (headSpec wsX8_counts rm_X8_counts).room s m args below meth c 11 0 0 D (wsM cy h) (adM h) Q 84 [(5, .long (x5'))] [] s' (K x5' s')) :
  ∀ (n : Nat) (x5 : Int64) (x7 : Int32) (x8 : Int32) (s0 : Wd), G p l e (headSpec wsX8_counts rm_X8_counts).room s m args below meth c 11 0 0 D (wsM cy h) (adM h) Q 9 [(0, .ref (h 0)), (1, .int x1), (2, .int x2), (3, .int x3), (4, .int x4), (5, .long x5), (7, .int x7), (8, .int x8)] [] s0 (fl_X8_counts_9 N x1 x2 x3 x4 K n x5 x7 x8 s0) := by
  intro n
  induction n with
  | zero => intros; exact G.no
  | succ n ih =>
    intro x5 x7 x8 s0
    rw [fl_X8_counts_9]
    refine G.iload E dX8_counts_9 7 rfl ?_
    refine G.if_eq (tgt := 84) E dX8_counts_11 (by decide) ?_ ?_
    · refine G.loc [5] rfl ?_
      exact hK x5 s0
    · refine G.aload_n E dX8_counts_14 0 rfl rfl ?_
      refine G.iload E dX8_counts_15 6 rfl ?_
      refine G.callVls (n := 1) (T := TX8) (N := 21) (C := RX8) (a := h 0) (q0 := 0) (As := [.int x7]) E dX8_counts_17 (fun _ _ hv => c_X8_weightOf E.wf hv) gX8_counts_X8_weightOf rfl rfl rfl (by decide +kernel) ⟨Nat.le_of_ble_eq_true rfl, Nat.le_of_ble_eq_true rfl⟩ (wsM_at0 _ _ _) rfl rfl (Nat.le_of_ble_eq_true rfl) ⟨Nat.le_of_ble_eq_true rfl, Nat.le_of_ble_eq_true rfl⟩ (fun v1 s2 => ?_)
      refine G.lstore (lv' := [(9, .long v1), (0, .ref (h 0)), (1, .int x1), (2, .int x2), (3, .int x3), (4, .int x4), (5, .long x5), (7, .int x7), (8, .int x8)]) E dX8_counts_20 (by decide) rfl ?_
      refine G.lload E dX8_counts_22 0 rfl ?_
      refine G.lconst (v := 0) E dX8_counts_24 (by decide) ?_
      refine G.lcmp E dX8_counts_25 ?_
      refine G.jn (P := fun j => ∀ (v3 : Int64) (s4 : Wd), G p l e (headSpec wsX8_counts rm_X8_counts).room s m args below meth c 11 0 0 D (wsM cy h) (adM h) Q 61 [(0, .ref (h 0)), (1, .int x1), (2, .int x2), (3, .int x3), (4, .int x4), (5, .long v3), (7, .int x7)] [] s4 (j v3 s4)) ?_ (fun j61 hj61 => ?_)
      · intro v3 s4
        refine G.aload_n E dX8_counts_61 0 rfl rfl ?_
        refine G.iload E dX8_counts_62 6 rfl ?_
        refine G.callVi (n := 1) (T := TX8) (N := 21) (C := RX8) (a := h 0) (q0 := 0) (As := [.int x7]) E dX8_counts_64 (fun _ hv => c_X8_setBehind E.wf hv) gX8_counts_X8_setBehind rfl rfl rfl (by decide +kernel) ⟨Nat.le_of_ble_eq_true rfl, Nat.le_of_ble_eq_true rfl⟩ (wsM_at0 _ _ _) rfl rfl (Nat.le_of_ble_eq_true rfl) ⟨Nat.le_of_ble_eq_true rfl, Nat.le_of_ble_eq_true rfl⟩ (fun v5 => ?_)
        refine G.istore (lv' := [(7, .int v5), (0, .ref (h 0)), (1, .int x1), (2, .int x2), (3, .int x3), (4, .int x4), (5, .long v3)]) E dX8_counts_67 (by decide) rfl ?_
        refine G.iload E dX8_counts_69 0 rfl ?_
        refine G.jn (P := fun j => ∀ (v6 : Int32), G p l e (headSpec wsX8_counts rm_X8_counts).room s m args below meth c 11 0 0 D (wsM cy h) (adM h) Q 79 [(0, .ref (h 0)), (1, .int x1), (2, .int x2), (3, .int x3), (4, .int x4), (5, .long v3), (7, .int v5)] [.int v6] s4 (j v6)) ?_ (fun j79 hj79 => ?_)
        · intro v6
          refine G.istore (lv' := [(8, .int v6), (0, .ref (h 0)), (1, .int x1), (2, .int x2), (3, .int x3), (4, .int x4), (5, .long v3), (7, .int v5)]) E dX8_counts_79 (by decide) rfl ?_
          refine G.goto (tgt := 9) E dX8_counts_81 (by decide) ?_
          refine G.loc [1, 2, 3, 4, 5, 6, 7, 0] rfl ?_
          exact ih v3 v5 v6 s4
        · refine G.if_eq (tgt := 78) E dX8_counts_71 (by decide) ?_ ?_
          · refine G.iconst (v := 0) E dX8_counts_78 (by decide) ?_
            refine G.loc [1, 2, 3, 4, 5, 6, 0] rfl ?_
            exact hj79 0
          · refine G.iconst (v := 1) E dX8_counts_74 (by decide) ?_
            refine G.goto (tgt := 79) E dX8_counts_75 (by decide) ?_
            refine G.loc [1, 2, 3, 4, 5, 6, 0] rfl ?_
            exact hj79 1
      · refine G.if_le (tgt := 61) E dX8_counts_26 (by decide) ?_ ?_
        · refine G.loc [1, 2, 3, 4, 5, 6, 7] rfl ?_
          exact hj61 x5 s2
        · refine G.aload_n E dX8_counts_29 1 rfl rfl ?_
          refine G.aload_n E dX8_counts_30 1 rfl rfl ?_
          refine G.getI (T := TX8) (N := 21) (C := RX8) (q0 := 0) (i := 2) E dX8_counts_31 iw_X8_counts_8 (wsM_at0 _ _ _) rfl (by decide) rfl (List.mem_of_getElem? (i := 1) rfl) (fun v7 => ?_)
          refine G.callSi (n := 1) (As := [.int v7]) E dX8_counts_34 (fun _ hv => c_X8_many E.wf hv) gX8_counts_X8_many rfl rfl rfl (by decide +kernel) ⟨Nat.le_of_ble_eq_true rfl, Nat.le_of_ble_eq_true rfl⟩ rfl (Nat.le_of_ble_eq_true rfl) ⟨Nat.le_of_ble_eq_true rfl, Nat.le_of_ble_eq_true rfl⟩ (fun v8 => ?_)
          refine G.iload E dX8_counts_37 7 rfl ?_
          refine G.callSi (n := 1) (As := [.int x7]) E dX8_counts_39 (fun _ hv => c_X8_many E.wf hv) gX8_counts_X8_many rfl rfl rfl (by decide +kernel) ⟨Nat.le_of_ble_eq_true rfl, Nat.le_of_ble_eq_true rfl⟩ rfl (Nat.le_of_ble_eq_true rfl) ⟨Nat.le_of_ble_eq_true rfl, Nat.le_of_ble_eq_true rfl⟩ (fun v9 => ?_)
          refine G.isub E dX8_counts_42 ?_
          refine G.iload_n E dX8_counts_43 2 rfl rfl ?_
          refine G.iload_n E dX8_counts_44 3 rfl rfl ?_
          refine G.iload_n E dX8_counts_45 4 rfl rfl ?_
          refine G.iload E dX8_counts_46 5 rfl ?_
          refine G.callVis (n := 5) (T := TX8) (N := 21) (C := RX8) (a := h 0) (q0 := 0) (As := [.int (v8 - v9), .int x1, .int x2, .int x3, .int x4]) E dX8_counts_48 (fun _ _ hv => c_X8_isOf E.wf hv) gX8_counts_X8_isOf rfl rfl rfl (by decide +kernel) ⟨Nat.le_of_ble_eq_true rfl, Nat.le_of_ble_eq_true rfl⟩ (wsM_at0 _ _ _) rfl rfl (Nat.le_of_ble_eq_true rfl) ⟨Nat.le_of_ble_eq_true rfl, Nat.le_of_ble_eq_true rfl⟩ (fun v10 s11 => ?_)
          refine G.if_eq (tgt := 61) E dX8_counts_51 (by decide) ?_ ?_
          · refine G.loc [1, 2, 3, 4, 5, 6, 7] rfl ?_
            exact hj61 x5 s11
          · refine G.lload E dX8_counts_54 6 rfl ?_
            refine G.lload E dX8_counts_56 0 rfl ?_
            refine G.ladd E dX8_counts_58 ?_
            refine G.letL (fun v12 => ?_)
            refine G.lstore (lv' := [(5, .long v12), (9, .long v1), (0, .ref (h 0)), (1, .int x1), (2, .int x2), (3, .int x3), (4, .int x4), (7, .int x7), (8, .int x8)]) E dX8_counts_59 (by decide) rfl ?_
            refine G.loc [2, 3, 4, 5, 6, 0, 7] rfl ?_
            exact hj61 v12 s11
noncomputable def f_X8_counts (N : Nat) (σ : Wd) (a0 : Int32) (a1 : Int32) (a2 : Int32) (a3 : Int32) : Option (Int64 × Wd) :=
  fl_X8_counts_9 N a0 a1 a2 a3 (fun v13 s14 =>
    some (v13, s14)) N 0 0 1 σ
set_option maxHeartbeats 4000000 in
set_option maxRecDepth 100000 in
theorem c_X8_counts {l : Launch} {D : va_G} {cy : Nat → ClassId} {h : Nat → Nat} {N : Nat} {σ : Wd} {a0 : Int32} {a1 : Int32} {a2 : Int32} {a3 : Int32} {r : Int64} {σ1 : Wd} (hW : WF (wsM cy h) (adM h)) (hr : f_X8_counts N σ a0 a1 a2 a3 = some (r, σ1)) : Con l D cy (wsM cy h) (adM h) yX8_counts wsX8_counts rm_X8_counts 0 0 [.ref (h 0), .int a0, .int a1, .int a2, .int a3] (some (.long r)) σ σ1 := by
  refine Con.of (ρ := Int64 × Wd) (lv0 := [(0, .ref (h 0)), (1, .int a0), (2, .int a1), (3, .int a2), (4, .int a3)]) (σ := σ) (fun r : Int64 × Wd => some (.long r.1)) (fun r => r.2) (by decide) rfl rfl (Nat.le_of_ble_eq_true rfl) rfl hW hr (fun p e s m args below meth c E => ?_)
  unfold f_X8_counts
  refine G.lconst (v := 0) E dX8_counts_0 (by decide) ?_
  refine G.lstore (lv' := [(5, .long 0), (0, .ref (h 0)), (1, .int a0), (2, .int a1), (3, .int a2), (4, .int a3)]) E dX8_counts_1 (by decide) rfl ?_
  refine G.iconst (v := 0) E dX8_counts_3 (by decide) ?_
  refine G.istore (lv' := [(7, .int 0), (5, .long 0), (0, .ref (h 0)), (1, .int a0), (2, .int a1), (3, .int a2), (4, .int a3)]) E dX8_counts_4 (by decide) rfl ?_
  refine G.iconst (v := 1) E dX8_counts_6 (by decide) ?_
  refine G.istore (lv' := [(8, .int 1), (7, .int 0), (5, .long 0), (0, .ref (h 0)), (1, .int a0), (2, .int a1), (3, .int a2), (4, .int a3)]) E dX8_counts_7 (by decide) rfl ?_
  refine G.loc [3, 4, 5, 6, 7, 2, 1, 0] rfl ?_
  refine gl_X8_counts_9 E (fun v13 s14 => ?_) N _ _ _ _
  refine G.lload E dX8_counts_84 0 rfl ?_
  exact G.lret E dX8_counts_86 rfl rfl
abbrev rm_X8_common : Room := { frames := 0, cells := 0, slots := 0, locals := 0 }
noncomputable def fl_X8_common_17 {ρ : Type} (N : Nat) (K : Int64 → Option ρ) : Nat → Int64 → Int64 → Option ρ
  | 0, _, _ => none
  | n + 1, x4, x6 =>
    if (lg_cmp x6 0) ≤ 0 then (
      K x4)
    else (
      mL x4 x6 fun v2 =>
      fl_X8_common_17 N K n x6 v2)
set_option maxHeartbeats 4000000 in
set_option maxRecDepth 100000 in
theorem gl_X8_common_17 {ρ : Type} {Q : ρ → State → Prop} {N : Nat} {σ : Wd} {K : Int64 → Option ρ} (E : EV p s m args meth c cX8_common 10 RX8 wsX8_common (some .long) D cy (wsM cy h) (adM h)) (hK : ∀ (x4' : Int64), G p l e (headSpec wsX8_common rm_X8_common).room s m args below meth c 10 0 0 D (wsM cy h) (adM h) Q 42 [(4, .long (x4'))] [] σ (K x4')) :
  ∀ (n : Nat) (x4 : Int64) (x6 : Int64), G p l e (headSpec wsX8_common rm_X8_common).room s m args below meth c 10 0 0 D (wsM cy h) (adM h) Q 17 [(4, .long x4), (6, .long x6)] [] σ (fl_X8_common_17 N K n x4 x6) := by
  intro n
  induction n with
  | zero => intros; exact G.no
  | succ n ih =>
    intro x4 x6
    rw [fl_X8_common_17]
    refine G.lload E dX8_common_17 1 rfl ?_
    refine G.lconst (v := 0) E dX8_common_19 (by decide) ?_
    refine G.lcmp E dX8_common_20 ?_
    refine G.if_le (tgt := 42) E dX8_common_21 (by decide) ?_ ?_
    · refine G.loc [0] rfl ?_
      exact hK x4
    · refine G.lload E dX8_common_24 0 rfl ?_
      refine G.lload E dX8_common_26 1 rfl ?_
      refine G.lrem E dX8_common_28 (fun v2 => ?_)
      refine G.lstore (lv' := [(8, .long v2), (4, .long x4), (6, .long x6)]) E dX8_common_29 (by decide) rfl ?_
      refine G.lload E dX8_common_31 2 rfl ?_
      refine G.lstore (lv' := [(4, .long x6), (8, .long v2), (6, .long x6)]) E dX8_common_33 (by decide) rfl ?_
      refine G.lload E dX8_common_35 1 rfl ?_
      refine G.lstore (lv' := [(6, .long v2), (4, .long x6), (8, .long v2)]) E dX8_common_37 (by decide) rfl ?_
      refine G.goto (tgt := 17) E dX8_common_39 (by decide) ?_
      refine G.loc [1, 0] rfl ?_
      exact ih x6 v2
noncomputable def f_X8_common (N : Nat) (a0 : Int64) (a1 : Int64) : Option (Int64) :=
  jn (fun (v1 : Int64) => ((
    fl_X8_common_17 N (fun v3 =>
      some v3) N v1 a1) : Option (Int64))) fun j12 =>
  if 0 ≤ (lg_cmp a0 0) then (
    j12 a0)
  else (
    j12 (-a0))
set_option maxHeartbeats 4000000 in
set_option maxRecDepth 100000 in
theorem c_X8_common {l : Launch} {D : va_G} {cy : Nat → ClassId} {h : Nat → Nat} {N : Nat} {σ : Wd} {a0 : Int64} {a1 : Int64} {r : Int64} (hW : WF (wsM cy h) (adM h)) (hr : f_X8_common N a0 a1 = some r) : Con l D cy (wsM cy h) (adM h) yX8_common wsX8_common rm_X8_common 0 0 [.long a0, .long a1] (some (.long r)) σ σ := by
  refine Con.of (ρ := Int64) (lv0 := [(0, .long a0), (2, .long a1)]) (σ := σ) (fun r : Int64 => some (.long r)) (fun _ => σ) (by decide) rfl rfl (Nat.le_of_ble_eq_true rfl) rfl hW hr (fun p e s m args below meth c E => ?_)
  unfold f_X8_common
  refine G.lload_n E dX8_common_0 0 rfl rfl ?_
  refine G.lconst (v := 0) E dX8_common_1 (by decide) ?_
  refine G.lcmp E dX8_common_2 ?_
  refine G.jn (P := fun j => ∀ (v1 : Int64), G p l e (headSpec wsX8_common rm_X8_common).room s m args below meth c 10 0 0 D (wsM cy h) (adM h) (QM D (wsM cy h) (adM h) below args s 0 0 (fun r : Int64 => some (.long r)) (fun _ => σ)) 12 [(2, .long a1)] [.long v1] σ (j v1)) ?_ (fun j12 hj12 => ?_)
  · intro v1
    refine G.lstore (lv' := [(4, .long v1), (2, .long a1)]) E dX8_common_12 (by decide) rfl ?_
    refine G.lload_n E dX8_common_14 1 rfl rfl ?_
    refine G.lstore (lv' := [(6, .long a1), (4, .long v1), (2, .long a1)]) E dX8_common_15 (by decide) rfl ?_
    refine G.loc [1, 0] rfl ?_
    refine gl_X8_common_17 E (fun v3 => ?_) N _ _
    refine G.lload E dX8_common_42 0 rfl ?_
    exact G.lret E dX8_common_44 rfl rfl
  · refine G.if_ge (tgt := 11) E dX8_common_3 (by decide) ?_ ?_
    · refine G.lload_n E dX8_common_11 0 rfl rfl ?_
      refine G.loc [1] rfl ?_
      exact hj12 a0
    · refine G.lload_n E dX8_common_6 0 rfl rfl ?_
      refine G.lneg E dX8_common_7 ?_
      refine G.goto (tgt := 12) E dX8_common_8 (by decide) ?_
      refine G.loc [1] rfl ?_
      exact hj12 (-a0)
abbrev rm_X8_part : Room := { frames := 1, cells := 0, slots := 0, locals := 29 }
noncomputable def f_X8_part (N : Nat) (a0 : Int64) (a1 : Int64) (a2 : Int32) : Option (Int64) :=
  if (lg_cmp a1 0) = 0 then (
    some 0)
  else (
    bP (f_X8_common N a0 a1) fun v1 =>
    if a2 = 0 then (
      dL a0 v1 fun v2 =>
      some v2)
    else (
      dL a1 v1 fun v3 =>
      some v3))
set_option maxHeartbeats 4000000 in
set_option maxRecDepth 100000 in
theorem c_X8_part {l : Launch} {D : va_G} {cy : Nat → ClassId} {h : Nat → Nat} {N : Nat} {σ : Wd} {a0 : Int64} {a1 : Int64} {a2 : Int32} {r : Int64} (hW : WF (wsM cy h) (adM h)) (hr : f_X8_part N a0 a1 a2 = some r) : Con l D cy (wsM cy h) (adM h) yX8_part wsX8_part rm_X8_part 0 0 [.long a0, .long a1, .int a2] (some (.long r)) σ σ := by
  refine Con.of (ρ := Int64) (lv0 := [(0, .long a0), (2, .long a1), (4, .int a2)]) (σ := σ) (fun r : Int64 => some (.long r)) (fun _ => σ) (by decide) rfl rfl (Nat.le_of_ble_eq_true rfl) rfl hW hr (fun p e s m args below meth c E => ?_)
  unfold f_X8_part
  refine G.lload_n E dX8_part_0 1 rfl rfl ?_
  refine G.lconst (v := 0) E dX8_part_1 (by decide) ?_
  refine G.lcmp E dX8_part_2 ?_
  refine G.if_ne (tgt := 8) E dX8_part_3 (by decide) ?_ ?_
  · refine G.lconst (v := 0) E dX8_part_6 (by decide) ?_
    exact G.lret E dX8_part_7 rfl rfl
  · refine G.lload_n E dX8_part_8 0 rfl rfl ?_
    refine G.lload_n E dX8_part_9 1 rfl rfl ?_
    refine G.callSl (n := 2) (As := [.long a0, .long a1]) E dX8_part_10 (fun _ hv => c_X8_common E.wf hv) gX8_part_X8_common rfl rfl rfl (by decide +kernel) ⟨Nat.le_of_ble_eq_true rfl, Nat.le_of_ble_eq_true rfl⟩ rfl (Nat.le_of_ble_eq_true rfl) ⟨Nat.le_of_ble_eq_true rfl, Nat.le_of_ble_eq_true rfl⟩ (fun v1 => ?_)
    refine G.lstore (lv' := [(5, .long v1), (0, .long a0), (2, .long a1), (4, .int a2)]) E dX8_part_13 (by decide) rfl ?_
    refine G.iload E dX8_part_15 3 rfl ?_
    refine G.if_eq (tgt := 24) E dX8_part_17 (by decide) ?_ ?_
    · refine G.lload_n E dX8_part_24 1 rfl rfl ?_
      refine G.lload E dX8_part_25 0 rfl ?_
      refine G.ldiv E dX8_part_27 (fun v2 => ?_)
      exact G.lret E dX8_part_28 rfl rfl
    · refine G.lload_n E dX8_part_20 2 rfl rfl ?_
      refine G.goto (tgt := 25) E dX8_part_21 (by decide) ?_
      refine G.lload E dX8_part_25 0 rfl ?_
      refine G.ldiv E dX8_part_27 (fun v3 => ?_)
      exact G.lret E dX8_part_28 rfl rfl
set_option maxHeartbeats 4000000 in
set_option maxRecDepth 100000 in
theorem iw_X8_answer_8 : ∀ w ∈ u_ws RX8 TX8 21, w ∈ wsX8_answer := fun _ h => List.mem_cons_of_mem _ (List.mem_append_right _ h)
abbrev rm_X8_answer : Room := { frames := 5, cells := 0, slots := 0, locals := 122 }
noncomputable def f_X8_answer (N : Nat) (σ : Wd) (a0 : Int32) (a1 : Int32) (a2 : Int32) : Option (Int64 × Wd) :=
  bP (f_X8_isEdge N σ a0) fun v1 =>
  jn (fun (v2 : Int32) => ((
    wI σ 0 0 v2 fun s3 =>
    gI s3 0 0 fun v4 =>
    if v4 ≤ 0 then (
      bS (f_X8_counts N s3 2 a0 a1 0) fun v5 s6 =>
      bS (f_X8_counts N s6 1 0 0 0) fun v7 s8 =>
      bP (f_X8_part N v5 v7 a2) fun v9 =>
      some (v9, s8))
    else (
      some (0, s3))) : Option (Int64 × Wd))) fun j31 =>
  jn (fun (_u : Unit) => ((
    j31 1) : Option (Int64 × Wd))) fun j17 =>
  if v1 = 0 then (
    j17 ())
  else (
    bP (f_X8_isEdge N σ a1) fun v10 =>
    if v10 = 0 then (
      j17 ())
    else (
      if a0 = a1 then (
        j31 2)
      else (
        j31 0)))
set_option maxHeartbeats 4000000 in
set_option maxRecDepth 100000 in
theorem c_X8_answer {l : Launch} {D : va_G} {cy : Nat → ClassId} {h : Nat → Nat} {N : Nat} {σ : Wd} {a0 : Int32} {a1 : Int32} {a2 : Int32} {r : Int64} {σ1 : Wd} (hW : WF (wsM cy h) (adM h)) (hr : f_X8_answer N σ a0 a1 a2 = some (r, σ1)) : Con l D cy (wsM cy h) (adM h) yX8_answer wsX8_answer rm_X8_answer 0 0 [.ref (h 0), .int a0, .int a1, .int a2] (some (.long r)) σ σ1 := by
  refine Con.of (ρ := Int64 × Wd) (lv0 := [(0, .ref (h 0)), (1, .int a0), (2, .int a1), (3, .int a2)]) (σ := σ) (fun r : Int64 × Wd => some (.long r.1)) (fun r => r.2) (by decide) rfl rfl (Nat.le_of_ble_eq_true rfl) rfl hW hr (fun p e s m args below meth c E => ?_)
  unfold f_X8_answer
  refine G.aload_n E dX8_answer_0 0 rfl rfl ?_
  refine G.aload_n E dX8_answer_1 0 rfl rfl ?_
  refine G.iload_n E dX8_answer_2 1 rfl rfl ?_
  refine G.callVi (n := 1) (T := TX8) (N := 21) (C := RX8) (a := h 0) (q0 := 0) (As := [.int a0]) E dX8_answer_3 (fun _ hv => c_X8_isEdge E.wf hv) gX8_answer_X8_isEdge rfl rfl rfl (by decide +kernel) ⟨Nat.le_of_ble_eq_true rfl, Nat.le_of_ble_eq_true rfl⟩ (wsM_at0 _ _ _) rfl rfl (Nat.le_of_ble_eq_true rfl) ⟨Nat.le_of_ble_eq_true rfl, Nat.le_of_ble_eq_true rfl⟩ (fun v1 => ?_)
  refine G.jn (P := fun j => ∀ (v2 : Int32), G p l e (headSpec wsX8_answer rm_X8_answer).room s m args below meth c 4 0 0 D (wsM cy h) (adM h) (QM D (wsM cy h) (adM h) below args s 0 0 (fun r : Int64 × Wd => some (.long r.1)) (fun r => r.2)) 31 [(0, .ref (h 0)), (1, .int a0), (2, .int a1), (3, .int a2)] [.int v2, .ref (h 0)] σ (j v2)) ?_ (fun j31 hj31 => ?_)
  · intro v2
    refine G.putI (T := TX8) (N := 21) (C := RX8) (q0 := 0) (i := 0) (ty := .int) E dX8_answer_31 iw_X8_answer_8 tyX8 tyX8_ok nmX8 (wsM_at0 _ _ _) rfl (by decide) (List.mem_of_getElem? (i := 1) rfl) rfl (by decide +kernel) rfl rfl (Nat.le_of_ble_eq_true rfl) (wsM_set0_0 _ _ _ _) (fun s3 => ?_)
    refine G.aload_n E dX8_answer_34 0 rfl rfl ?_
    refine G.getI (T := TX8) (N := 21) (C := RX8) (q0 := 0) (i := 0) E dX8_answer_35 iw_X8_answer_8 (wsM_at0 _ _ _) rfl (by decide) rfl (List.mem_of_getElem? (i := 1) rfl) (fun v4 => ?_)
    refine G.if_le (tgt := 43) E dX8_answer_38 (by decide) ?_ ?_
    · refine G.aload_n E dX8_answer_43 0 rfl rfl ?_
      refine G.iconst (v := 2) E dX8_answer_44 (by decide) ?_
      refine G.iload_n E dX8_answer_45 1 rfl rfl ?_
      refine G.iload_n E dX8_answer_46 2 rfl rfl ?_
      refine G.iconst (v := 0) E dX8_answer_47 (by decide) ?_
      refine G.callVls (n := 4) (T := TX8) (N := 21) (C := RX8) (a := h 0) (q0 := 0) (As := [.int 2, .int a0, .int a1, .int 0]) E dX8_answer_48 (fun _ _ hv => c_X8_counts E.wf hv) gX8_answer_X8_counts rfl rfl rfl (by decide +kernel) ⟨Nat.le_of_ble_eq_true rfl, Nat.le_of_ble_eq_true rfl⟩ (wsM_at0 _ _ _) rfl rfl (Nat.le_of_ble_eq_true rfl) ⟨Nat.le_of_ble_eq_true rfl, Nat.le_of_ble_eq_true rfl⟩ (fun v5 s6 => ?_)
      refine G.aload_n E dX8_answer_51 0 rfl rfl ?_
      refine G.iconst (v := 1) E dX8_answer_52 (by decide) ?_
      refine G.iconst (v := 0) E dX8_answer_53 (by decide) ?_
      refine G.iconst (v := 0) E dX8_answer_54 (by decide) ?_
      refine G.iconst (v := 0) E dX8_answer_55 (by decide) ?_
      refine G.callVls (n := 4) (T := TX8) (N := 21) (C := RX8) (a := h 0) (q0 := 0) (As := [.int 1, .int 0, .int 0, .int 0]) E dX8_answer_56 (fun _ _ hv => c_X8_counts E.wf hv) gX8_answer_X8_counts rfl rfl rfl (by decide +kernel) ⟨Nat.le_of_ble_eq_true rfl, Nat.le_of_ble_eq_true rfl⟩ (wsM_at0 _ _ _) rfl rfl (Nat.le_of_ble_eq_true rfl) ⟨Nat.le_of_ble_eq_true rfl, Nat.le_of_ble_eq_true rfl⟩ (fun v7 s8 => ?_)
      refine G.iload_n E dX8_answer_59 3 rfl rfl ?_
      refine G.callSl (n := 3) (As := [.long v5, .long v7, .int a2]) E dX8_answer_60 (fun _ hv => c_X8_part E.wf hv) gX8_answer_X8_part rfl rfl rfl (by decide +kernel) ⟨Nat.le_of_ble_eq_true rfl, Nat.le_of_ble_eq_true rfl⟩ rfl (Nat.le_of_ble_eq_true rfl) ⟨Nat.le_of_ble_eq_true rfl, Nat.le_of_ble_eq_true rfl⟩ (fun v9 => ?_)
      exact G.lret E dX8_answer_63 rfl rfl
    · refine G.lconst (v := 0) E dX8_answer_41 (by decide) ?_
      exact G.lret E dX8_answer_42 rfl rfl
  · refine G.jn (P := fun j => ∀ (_u : Unit), G p l e (headSpec wsX8_answer rm_X8_answer).room s m args below meth c 4 0 0 D (wsM cy h) (adM h) (QM D (wsM cy h) (adM h) below args s 0 0 (fun r : Int64 × Wd => some (.long r.1)) (fun r => r.2)) 17 [(0, .ref (h 0)), (1, .int a0), (2, .int a1), (3, .int a2)] [.ref (h 0)] σ (j _u)) ?_ (fun j17 hj17 => ?_)
    · intro _u
      refine G.iconst (v := 1) E dX8_answer_17 (by decide) ?_
      refine G.goto (tgt := 31) E dX8_answer_18 (by decide) ?_
      refine G.loc [0, 1, 2, 3] rfl ?_
      exact hj31 1
    · refine G.if_eq (tgt := 17) E dX8_answer_6 (by decide) ?_ ?_
      · refine G.loc [0, 1, 2, 3] rfl ?_
        exact hj17 ()
      · refine G.aload_n E dX8_answer_9 0 rfl rfl ?_
        refine G.iload_n E dX8_answer_10 2 rfl rfl ?_
        refine G.callVi (n := 1) (T := TX8) (N := 21) (C := RX8) (a := h 0) (q0 := 0) (As := [.int a1]) E dX8_answer_11 (fun _ hv => c_X8_isEdge E.wf hv) gX8_answer_X8_isEdge rfl rfl rfl (by decide +kernel) ⟨Nat.le_of_ble_eq_true rfl, Nat.le_of_ble_eq_true rfl⟩ (wsM_at0 _ _ _) rfl rfl (Nat.le_of_ble_eq_true rfl) ⟨Nat.le_of_ble_eq_true rfl, Nat.le_of_ble_eq_true rfl⟩ (fun v10 => ?_)
        refine G.if_ne (tgt := 21) E dX8_answer_14 (by decide) ?_ ?_
        · refine G.loc [0, 1, 2, 3] rfl ?_
          exact hj17 ()
        · refine G.iload_n E dX8_answer_21 1 rfl rfl ?_
          refine G.iload_n E dX8_answer_22 2 rfl rfl ?_
          refine G.icmp_ne (tgt := 30) E dX8_answer_23 (by decide) ?_ ?_
          · refine G.iconst (v := 2) E dX8_answer_26 (by decide) ?_
            refine G.goto (tgt := 31) E dX8_answer_27 (by decide) ?_
            refine G.loc [0, 1, 2, 3] rfl ?_
            exact hj31 2
          · refine G.iconst (v := 0) E dX8_answer_30 (by decide) ?_
            refine G.loc [0, 1, 2, 3] rfl ?_
            exact hj31 0
set_option maxHeartbeats 4000000 in
set_option maxRecDepth 100000 in
theorem iw_X8_areJoined_8 : ∀ w ∈ u_ws RX8 TX8 21, w ∈ wsX8_areJoined := fun _ h => List.mem_cons_of_mem _ (List.mem_append_right _ h)
abbrev rm_X8_areJoined : Room := { frames := 1, cells := 0, slots := 0, locals := 21 }
noncomputable def fl_X8_areJoined_5 {ρ : Type} (N : Nat) (σ : Wd) (x1 : Int32) (x2 : Int32) (K : Int32 → Option ρ) : Nat → Int32 → Int32 → Option ρ
  | 0, _, _ => none
  | n + 1, x3, x4 =>
    gI σ 0 4 fun v1 =>
    if v1 ≤ x4 then (
      K x3)
    else (
      jn (fun (v2 : Int32) => ((
        fl_X8_areJoined_5 N σ x1 x2 K n v2 (x4 + 1)) : Option (ρ))) fun j79 =>
      jn (fun (_u : Unit) => ((
        j79 1) : Option (ρ))) fun j74 =>
      if x3 = 0 then (
        gI σ 0 5 fun v3 =>
        bP (f_X8_isIn N v3 x4) fun v4 =>
        jn (fun (_u : Unit) => ((
          j79 0) : Option (ρ))) fun j78 =>
        if v4 = 0 then (
          j78 ())
        else (
          rI σ 1 20 x4 fun v5 =>
          jn (fun (_u : Unit) => ((
            rI σ 1 20 x4 fun v6 =>
            if v6 = x2 then (
              rI σ 2 20 x4 fun v7 =>
              if v7 = x1 then (
                j74 ())
              else (
                j78 ()))
            else (
              j78 ())) : Option (ρ))) fun j52 =>
          if v5 = x1 then (
            rI σ 2 20 x4 fun v8 =>
            if v8 = x2 then (
              j74 ())
            else (
              j52 ()))
          else (
            j52 ())))
      else (
        j74 ()))
set_option maxHeartbeats 4000000 in
set_option maxRecDepth 100000 in
theorem gl_X8_areJoined_5 {ρ : Type} {Q : ρ → State → Prop} {N : Nat} {σ : Wd} {x1 : Int32} {x2 : Int32} {K : Int32 → Option ρ} (E : EV p s m args meth c cX8_areJoined 5 RX8 wsX8_areJoined (some .boolean) D cy (wsM cy h) (adM h)) (hK : ∀ (x3' : Int32), G p l e (headSpec wsX8_areJoined rm_X8_areJoined).room s m args below meth c 5 0 0 D (wsM cy h) (adM h) Q 86 [(3, .int (x3'))] [] σ (K x3')) :
  ∀ (n : Nat) (x3 : Int32) (x4 : Int32), G p l e (headSpec wsX8_areJoined rm_X8_areJoined).room s m args below meth c 5 0 0 D (wsM cy h) (adM h) Q 5 [(0, .ref (h 0)), (1, .int x1), (2, .int x2), (3, .int x3), (4, .int x4)] [] σ (fl_X8_areJoined_5 N σ x1 x2 K n x3 x4) := by
  intro n
  induction n with
  | zero => intros; exact G.no
  | succ n ih =>
    intro x3 x4
    rw [fl_X8_areJoined_5]
    refine G.iload E dX8_areJoined_5 4 rfl ?_
    refine G.aload_n E dX8_areJoined_7 0 rfl rfl ?_
    refine G.getI (T := TX8) (N := 21) (C := RX8) (q0 := 0) (i := 4) E dX8_areJoined_8 iw_X8_areJoined_8 (wsM_at0 _ _ _) rfl (by decide) rfl (List.mem_of_getElem? (i := 1) rfl) (fun v1 => ?_)
    refine G.icmp_ge (tgt := 86) E dX8_areJoined_11 (by decide) ?_ ?_
    · refine G.loc [3] rfl ?_
      exact hK x3
    · refine G.iload_n E dX8_areJoined_14 3 rfl rfl ?_
      refine G.jn (P := fun j => ∀ (v2 : Int32), G p l e (headSpec wsX8_areJoined rm_X8_areJoined).room s m args below meth c 5 0 0 D (wsM cy h) (adM h) Q 79 [(0, .ref (h 0)), (1, .int x1), (2, .int x2), (4, .int x4)] [.int v2] σ (j v2)) ?_ (fun j79 hj79 => ?_)
      · intro v2
        refine G.istore_n (lv' := [(3, .int v2), (0, .ref (h 0)), (1, .int x1), (2, .int x2), (4, .int x4)]) E dX8_areJoined_79 rfl (by decide) rfl ?_
        refine G.iinc (v := x4 + 1) (lv' := [(4, .int (x4 + 1)), (3, .int v2), (0, .ref (h 0)), (1, .int x1), (2, .int x2)]) E dX8_areJoined_80 4 rfl rfl (by decide) rfl ?_
        refine G.goto (tgt := 5) E dX8_areJoined_83 (by decide) ?_
        refine G.loc [2, 3, 4, 1, 0] rfl ?_
        exact ih v2 (x4 + 1)
      · refine G.jn (P := fun j => ∀ (_u : Unit), G p l e (headSpec wsX8_areJoined rm_X8_areJoined).room s m args below meth c 5 0 0 D (wsM cy h) (adM h) Q 74 [(0, .ref (h 0)), (1, .int x1), (2, .int x2), (4, .int x4)] [] σ (j _u)) ?_ (fun j74 hj74 => ?_)
        · intro _u
          refine G.iconst (v := 1) E dX8_areJoined_74 (by decide) ?_
          refine G.goto (tgt := 79) E dX8_areJoined_75 (by decide) ?_
          refine G.loc [0, 1, 2, 3] rfl ?_
          exact hj79 1
        · refine G.if_ne (tgt := 74) E dX8_areJoined_15 (by decide) ?_ ?_
          · refine G.aload_n E dX8_areJoined_18 0 rfl rfl ?_
            refine G.getI (T := TX8) (N := 21) (C := RX8) (q0 := 0) (i := 5) E dX8_areJoined_19 iw_X8_areJoined_8 (wsM_at0 _ _ _) rfl (by decide) rfl (List.mem_of_getElem? (i := 2) rfl) (fun v3 => ?_)
            refine G.iload E dX8_areJoined_22 4 rfl ?_
            refine G.callSi (n := 2) (As := [.int v3, .int x4]) E dX8_areJoined_24 (fun _ hv => c_X8_isIn E.wf hv) gX8_areJoined_X8_isIn rfl rfl rfl (by decide +kernel) ⟨Nat.le_of_ble_eq_true rfl, Nat.le_of_ble_eq_true rfl⟩ rfl (Nat.le_of_ble_eq_true rfl) ⟨Nat.le_of_ble_eq_true rfl, Nat.le_of_ble_eq_true rfl⟩ (fun v4 => ?_)
            refine G.jn (P := fun j => ∀ (_u : Unit), G p l e (headSpec wsX8_areJoined rm_X8_areJoined).room s m args below meth c 5 0 0 D (wsM cy h) (adM h) Q 78 [(0, .ref (h 0)), (1, .int x1), (2, .int x2), (4, .int x4)] [] σ (j _u)) ?_ (fun j78 hj78 => ?_)
            · intro _u
              refine G.iconst (v := 0) E dX8_areJoined_78 (by decide) ?_
              refine G.loc [0, 1, 2, 3] rfl ?_
              exact hj79 0
            · refine G.if_eq (tgt := 78) E dX8_areJoined_27 (by decide) ?_ ?_
              · refine G.loc [0, 1, 2, 4] rfl ?_
                exact hj78 ()
              · refine G.aload_n E dX8_areJoined_30 0 rfl rfl ?_
                refine G.getR (T := TX8) (N := 21) (C := RX8) (q0 := 0) (i := 6) E dX8_areJoined_31 iw_X8_areJoined_8 (wsM_at0 _ _ _) rfl (by decide) rfl (List.mem_of_getElem? (i := 3) rfl) ?_
                refine G.iload E dX8_areJoined_34 4 rfl ?_
                refine G.iald (q0 := 1) E dX8_areJoined_36 (wsM_at1 _ _ _) (fun v5 => ?_)
                refine G.iload_n E dX8_areJoined_37 1 rfl rfl ?_
                refine G.jn (P := fun j => ∀ (_u : Unit), G p l e (headSpec wsX8_areJoined rm_X8_areJoined).room s m args below meth c 5 0 0 D (wsM cy h) (adM h) Q 52 [(0, .ref (h 0)), (1, .int x1), (2, .int x2), (4, .int x4)] [] σ (j _u)) ?_ (fun j52 hj52 => ?_)
                · intro _u
                  refine G.aload_n E dX8_areJoined_52 0 rfl rfl ?_
                  refine G.getR (T := TX8) (N := 21) (C := RX8) (q0 := 0) (i := 6) E dX8_areJoined_53 iw_X8_areJoined_8 (wsM_at0 _ _ _) rfl (by decide) rfl (List.mem_of_getElem? (i := 3) rfl) ?_
                  refine G.iload E dX8_areJoined_56 3 rfl ?_
                  refine G.iald (q0 := 1) E dX8_areJoined_58 (wsM_at1 _ _ _) (fun v6 => ?_)
                  refine G.iload_n E dX8_areJoined_59 2 rfl rfl ?_
                  refine G.icmp_ne (tgt := 78) E dX8_areJoined_60 (by decide) ?_ ?_
                  · refine G.aload_n E dX8_areJoined_63 0 rfl rfl ?_
                    refine G.getR (T := TX8) (N := 21) (C := RX8) (q0 := 0) (i := 7) E dX8_areJoined_64 iw_X8_areJoined_8 (wsM_at0 _ _ _) rfl (by decide) rfl (List.mem_of_getElem? (i := 4) rfl) ?_
                    refine G.iload E dX8_areJoined_67 3 rfl ?_
                    refine G.iald (q0 := 2) E dX8_areJoined_69 (wsM_at2 _ _ _) (fun v7 => ?_)
                    refine G.iload_n E dX8_areJoined_70 1 rfl rfl ?_
                    refine G.icmp_ne (tgt := 78) E dX8_areJoined_71 (by decide) ?_ ?_
                    · refine G.loc [0, 1, 2, 3] rfl ?_
                      exact hj74 ()
                    · refine G.loc [0, 1, 2, 3] rfl ?_
                      exact hj78 ()
                  · refine G.loc [0, 1, 2, 3] rfl ?_
                    exact hj78 ()
                · refine G.icmp_ne (tgt := 52) E dX8_areJoined_38 (by decide) ?_ ?_
                  · refine G.aload_n E dX8_areJoined_41 0 rfl rfl ?_
                    refine G.getR (T := TX8) (N := 21) (C := RX8) (q0 := 0) (i := 7) E dX8_areJoined_42 iw_X8_areJoined_8 (wsM_at0 _ _ _) rfl (by decide) rfl (List.mem_of_getElem? (i := 4) rfl) ?_
                    refine G.iload E dX8_areJoined_45 4 rfl ?_
                    refine G.iald (q0 := 2) E dX8_areJoined_47 (wsM_at2 _ _ _) (fun v8 => ?_)
                    refine G.iload_n E dX8_areJoined_48 2 rfl rfl ?_
                    refine G.icmp_eq (tgt := 74) E dX8_areJoined_49 (by decide) ?_ ?_
                    · refine G.loc [0, 1, 2, 4] rfl ?_
                      exact hj74 ()
                    · refine G.loc [0, 1, 2, 4] rfl ?_
                      exact hj52 ()
                  · refine G.loc [0, 1, 2, 4] rfl ?_
                    exact hj52 ()
          · refine G.loc [0, 1, 2, 4] rfl ?_
            exact hj74 ()
noncomputable def f_X8_areJoined (N : Nat) (σ : Wd) (a0 : Int32) (a1 : Int32) : Option (Int32) :=
  fl_X8_areJoined_5 N σ a0 a1 (fun v9 =>
    zb v9 (some v9)) N 0 0
set_option maxHeartbeats 4000000 in
set_option maxRecDepth 100000 in
theorem c_X8_areJoined {l : Launch} {D : va_G} {cy : Nat → ClassId} {h : Nat → Nat} {N : Nat} {σ : Wd} {a0 : Int32} {a1 : Int32} {r : Int32} (hW : WF (wsM cy h) (adM h)) (hr : f_X8_areJoined N σ a0 a1 = some r) : Con l D cy (wsM cy h) (adM h) yX8_areJoined wsX8_areJoined rm_X8_areJoined 0 0 [.ref (h 0), .int a0, .int a1] (some (.int r)) σ σ := by
  refine Con.of (ρ := Int32) (lv0 := [(0, .ref (h 0)), (1, .int a0), (2, .int a1)]) (σ := σ) (fun r : Int32 => some (.int r)) (fun _ => σ) (by decide) rfl rfl (Nat.le_of_ble_eq_true rfl) rfl hW hr (fun p e s m args below meth c E => ?_)
  unfold f_X8_areJoined
  refine G.iconst (v := 0) E dX8_areJoined_0 (by decide) ?_
  refine G.istore_n (lv' := [(3, .int 0), (0, .ref (h 0)), (1, .int a0), (2, .int a1)]) E dX8_areJoined_1 rfl (by decide) rfl ?_
  refine G.iconst (v := 0) E dX8_areJoined_2 (by decide) ?_
  refine G.istore (lv' := [(4, .int 0), (3, .int 0), (0, .ref (h 0)), (1, .int a0), (2, .int a1)]) E dX8_areJoined_3 (by decide) rfl ?_
  refine G.loc [2, 3, 4, 1, 0] rfl ?_
  refine gl_X8_areJoined_5 E (fun v9 => ?_) N _ _
  refine G.iload_n E dX8_areJoined_86 0 rfl rfl ?_
  exact G.zret E dX8_areJoined_87 rfl rfl
set_option maxHeartbeats 4000000 in
set_option maxRecDepth 100000 in
theorem iw_X8_wiresOf_8 : ∀ w ∈ u_ws RX8 TX8 21, w ∈ wsX8_wiresOf := fun _ h => List.mem_cons_of_mem _ (List.mem_append_right _ h)
abbrev rm_X8_wiresOf : Room := { frames := 1, cells := 0, slots := 0, locals := 21 }
noncomputable def fl_X8_wiresOf_4 {ρ : Type} (N : Nat) (σ : Wd) (x1 : Int32) (K : Int32 → Option ρ) : Nat → Int32 → Int32 → Option ρ
  | 0, _, _ => none
  | n + 1, x2, x3 =>
    if 20 ≤ x3 then (
      K x2)
    else (
      gI σ 0 5 fun v1 =>
      bP (f_X8_isIn N v1 x3) fun v2 =>
      jn (fun (v3 : Int32) => ((
        lI (x2 + v3) fun v4 =>
        fl_X8_wiresOf_4 N σ x1 K n v4 (x3 + 1)) : Option (ρ))) fun j47 =>
      jn (fun (_u : Unit) => ((
        j47 0) : Option (ρ))) fun j46 =>
      if v2 = 0 then (
        j46 ())
      else (
        rI σ 1 20 x3 fun v5 =>
        jn (fun (_u : Unit) => ((
          j47 1) : Option (ρ))) fun j42 =>
        if v5 = x1 then (
          j42 ())
        else (
          rI σ 2 20 x3 fun v6 =>
          if v6 = x1 then (
            j42 ())
          else (
            j46 ()))))
set_option maxHeartbeats 4000000 in
set_option maxRecDepth 100000 in
theorem gl_X8_wiresOf_4 {ρ : Type} {Q : ρ → State → Prop} {N : Nat} {σ : Wd} {x1 : Int32} {K : Int32 → Option ρ} (E : EV p s m args meth c cX8_wiresOf 4 RX8 wsX8_wiresOf (some .int) D cy (wsM cy h) (adM h)) (hK : ∀ (x2' : Int32), G p l e (headSpec wsX8_wiresOf rm_X8_wiresOf).room s m args below meth c 4 0 0 D (wsM cy h) (adM h) Q 55 [(2, .int (x2'))] [] σ (K x2')) :
  ∀ (n : Nat) (x2 : Int32) (x3 : Int32), G p l e (headSpec wsX8_wiresOf rm_X8_wiresOf).room s m args below meth c 4 0 0 D (wsM cy h) (adM h) Q 4 [(0, .ref (h 0)), (1, .int x1), (2, .int x2), (3, .int x3)] [] σ (fl_X8_wiresOf_4 N σ x1 K n x2 x3) := by
  intro n
  induction n with
  | zero => intros; exact G.no
  | succ n ih =>
    intro x2 x3
    rw [fl_X8_wiresOf_4]
    refine G.iload_n E dX8_wiresOf_4 3 rfl rfl ?_
    refine G.bipush (v := 20) E dX8_wiresOf_5 (by decide) ?_
    refine G.icmp_ge (tgt := 55) E dX8_wiresOf_7 (by decide) ?_ ?_
    · refine G.loc [2] rfl ?_
      exact hK x2
    · refine G.iload_n E dX8_wiresOf_10 2 rfl rfl ?_
      refine G.aload_n E dX8_wiresOf_11 0 rfl rfl ?_
      refine G.getI (T := TX8) (N := 21) (C := RX8) (q0 := 0) (i := 5) E dX8_wiresOf_12 iw_X8_wiresOf_8 (wsM_at0 _ _ _) rfl (by decide) rfl (List.mem_of_getElem? (i := 1) rfl) (fun v1 => ?_)
      refine G.iload_n E dX8_wiresOf_15 3 rfl rfl ?_
      refine G.callSi (n := 2) (As := [.int v1, .int x3]) E dX8_wiresOf_16 (fun _ hv => c_X8_isIn E.wf hv) gX8_wiresOf_X8_isIn rfl rfl rfl (by decide +kernel) ⟨Nat.le_of_ble_eq_true rfl, Nat.le_of_ble_eq_true rfl⟩ rfl (Nat.le_of_ble_eq_true rfl) ⟨Nat.le_of_ble_eq_true rfl, Nat.le_of_ble_eq_true rfl⟩ (fun v2 => ?_)
      refine G.jn (P := fun j => ∀ (v3 : Int32), G p l e (headSpec wsX8_wiresOf rm_X8_wiresOf).room s m args below meth c 4 0 0 D (wsM cy h) (adM h) Q 47 [(0, .ref (h 0)), (1, .int x1), (3, .int x3)] [.int v3, .int x2] σ (j v3)) ?_ (fun j47 hj47 => ?_)
      · intro v3
        refine G.iadd E dX8_wiresOf_47 ?_
        refine G.letI (fun v4 => ?_)
        refine G.istore_n (lv' := [(2, .int v4), (0, .ref (h 0)), (1, .int x1), (3, .int x3)]) E dX8_wiresOf_48 rfl (by decide) rfl ?_
        refine G.iinc (v := x3 + 1) (lv' := [(3, .int (x3 + 1)), (2, .int v4), (0, .ref (h 0)), (1, .int x1)]) E dX8_wiresOf_49 3 rfl rfl (by decide) rfl ?_
        refine G.goto (tgt := 4) E dX8_wiresOf_52 (by decide) ?_
        refine G.loc [2, 3, 1, 0] rfl ?_
        exact ih v4 (x3 + 1)
      · refine G.jn (P := fun j => ∀ (_u : Unit), G p l e (headSpec wsX8_wiresOf rm_X8_wiresOf).room s m args below meth c 4 0 0 D (wsM cy h) (adM h) Q 46 [(0, .ref (h 0)), (1, .int x1), (3, .int x3)] [.int x2] σ (j _u)) ?_ (fun j46 hj46 => ?_)
        · intro _u
          refine G.iconst (v := 0) E dX8_wiresOf_46 (by decide) ?_
          refine G.loc [0, 1, 2] rfl ?_
          exact hj47 0
        · refine G.if_eq (tgt := 46) E dX8_wiresOf_19 (by decide) ?_ ?_
          · refine G.loc [0, 1, 3] rfl ?_
            exact hj46 ()
          · refine G.aload_n E dX8_wiresOf_22 0 rfl rfl ?_
            refine G.getR (T := TX8) (N := 21) (C := RX8) (q0 := 0) (i := 6) E dX8_wiresOf_23 iw_X8_wiresOf_8 (wsM_at0 _ _ _) rfl (by decide) rfl (List.mem_of_getElem? (i := 2) rfl) ?_
            refine G.iload_n E dX8_wiresOf_26 3 rfl rfl ?_
            refine G.iald (q0 := 1) E dX8_wiresOf_27 (wsM_at1 _ _ _) (fun v5 => ?_)
            refine G.iload_n E dX8_wiresOf_28 1 rfl rfl ?_
            refine G.jn (P := fun j => ∀ (_u : Unit), G p l e (headSpec wsX8_wiresOf rm_X8_wiresOf).room s m args below meth c 4 0 0 D (wsM cy h) (adM h) Q 42 [(0, .ref (h 0)), (1, .int x1), (3, .int x3)] [.int x2] σ (j _u)) ?_ (fun j42 hj42 => ?_)
            · intro _u
              refine G.iconst (v := 1) E dX8_wiresOf_42 (by decide) ?_
              refine G.goto (tgt := 47) E dX8_wiresOf_43 (by decide) ?_
              refine G.loc [0, 1, 2] rfl ?_
              exact hj47 1
            · refine G.icmp_eq (tgt := 42) E dX8_wiresOf_29 (by decide) ?_ ?_
              · refine G.loc [0, 1, 3] rfl ?_
                exact hj42 ()
              · refine G.aload_n E dX8_wiresOf_32 0 rfl rfl ?_
                refine G.getR (T := TX8) (N := 21) (C := RX8) (q0 := 0) (i := 7) E dX8_wiresOf_33 iw_X8_wiresOf_8 (wsM_at0 _ _ _) rfl (by decide) rfl (List.mem_of_getElem? (i := 3) rfl) ?_
                refine G.iload_n E dX8_wiresOf_36 3 rfl rfl ?_
                refine G.iald (q0 := 2) E dX8_wiresOf_37 (wsM_at2 _ _ _) (fun v6 => ?_)
                refine G.iload_n E dX8_wiresOf_38 1 rfl rfl ?_
                refine G.icmp_ne (tgt := 46) E dX8_wiresOf_39 (by decide) ?_ ?_
                · refine G.loc [0, 1, 3] rfl ?_
                  exact hj42 ()
                · refine G.loc [0, 1, 3] rfl ?_
                  exact hj46 ()
noncomputable def f_X8_wiresOf (N : Nat) (σ : Wd) (a0 : Int32) : Option (Int32) :=
  fl_X8_wiresOf_4 N σ a0 (fun v7 =>
    some v7) N 0 0
set_option maxHeartbeats 4000000 in
set_option maxRecDepth 100000 in
theorem c_X8_wiresOf {l : Launch} {D : va_G} {cy : Nat → ClassId} {h : Nat → Nat} {N : Nat} {σ : Wd} {a0 : Int32} {r : Int32} (hW : WF (wsM cy h) (adM h)) (hr : f_X8_wiresOf N σ a0 = some r) : Con l D cy (wsM cy h) (adM h) yX8_wiresOf wsX8_wiresOf rm_X8_wiresOf 0 0 [.ref (h 0), .int a0] (some (.int r)) σ σ := by
  refine Con.of (ρ := Int32) (lv0 := [(0, .ref (h 0)), (1, .int a0)]) (σ := σ) (fun r : Int32 => some (.int r)) (fun _ => σ) (by decide) rfl rfl (Nat.le_of_ble_eq_true rfl) rfl hW hr (fun p e s m args below meth c E => ?_)
  unfold f_X8_wiresOf
  refine G.iconst (v := 0) E dX8_wiresOf_0 (by decide) ?_
  refine G.istore_n (lv' := [(2, .int 0), (0, .ref (h 0)), (1, .int a0)]) E dX8_wiresOf_1 rfl (by decide) rfl ?_
  refine G.iconst (v := 0) E dX8_wiresOf_2 (by decide) ?_
  refine G.istore_n (lv' := [(3, .int 0), (2, .int 0), (0, .ref (h 0)), (1, .int a0)]) E dX8_wiresOf_3 rfl (by decide) rfl ?_
  refine G.loc [2, 3, 1, 0] rfl ?_
  refine gl_X8_wiresOf_4 E (fun v7 => ?_) N _ _
  refine G.iload_n E dX8_wiresOf_55 0 rfl rfl ?_
  exact G.iret E dX8_wiresOf_56 rfl rfl
abbrev rm_X8_otherEnd : Room := { frames := 0, cells := 0, slots := 0, locals := 0 }
noncomputable def f_X8_otherEnd (N : Nat) (σ : Wd) (a0 : Int32) (a1 : Int32) : Option (Int32) :=
  rI σ 1 20 a0 fun v1 =>
  if v1 = a1 then (
    rI σ 2 20 a0 fun v3 =>
    some v3)
  else (
    rI σ 1 20 a0 fun v2 =>
    some v2)
set_option maxHeartbeats 4000000 in
set_option maxRecDepth 100000 in
theorem c_X8_otherEnd {l : Launch} {D : va_G} {cy : Nat → ClassId} {h : Nat → Nat} {N : Nat} {σ : Wd} {a0 : Int32} {a1 : Int32} {r : Int32} (hW : WF (wsM cy h) (adM h)) (hr : f_X8_otherEnd N σ a0 a1 = some r) : Con l D cy (wsM cy h) (adM h) yX8_otherEnd wsX8_otherEnd rm_X8_otherEnd 0 0 [.int a0, .int a1, .ref (h 1), .ref (h 2)] (some (.int r)) σ σ := by
  refine Con.of (ρ := Int32) (lv0 := [(0, .int a0), (1, .int a1), (2, .ref (h 1)), (3, .ref (h 2))]) (σ := σ) (fun r : Int32 => some (.int r)) (fun _ => σ) (by decide) rfl rfl (Nat.le_of_ble_eq_true rfl) rfl hW hr (fun p e s m args below meth c E => ?_)
  unfold f_X8_otherEnd
  refine G.aload_n E dX8_otherEnd_0 2 rfl rfl ?_
  refine G.iload_n E dX8_otherEnd_1 0 rfl rfl ?_
  refine G.iald (q0 := 1) E dX8_otherEnd_2 (wsM_at1 _ _ _) (fun v1 => ?_)
  refine G.iload_n E dX8_otherEnd_3 1 rfl rfl ?_
  refine G.icmp_ne (tgt := 13) E dX8_otherEnd_4 (by decide) ?_ ?_
  · refine G.aload_n E dX8_otherEnd_7 3 rfl rfl ?_
    refine G.iload_n E dX8_otherEnd_8 0 rfl rfl ?_
    refine G.iald (q0 := 2) E dX8_otherEnd_9 (wsM_at2 _ _ _) (fun v3 => ?_)
    refine G.goto (tgt := 16) E dX8_otherEnd_10 (by decide) ?_
    exact G.iret E dX8_otherEnd_16 rfl rfl
  · refine G.aload_n E dX8_otherEnd_13 2 rfl rfl ?_
    refine G.iload_n E dX8_otherEnd_14 0 rfl rfl ?_
    refine G.iald (q0 := 1) E dX8_otherEnd_15 (wsM_at1 _ _ _) (fun v2 => ?_)
    exact G.iret E dX8_otherEnd_16 rfl rfl
set_option maxHeartbeats 4000000 in
set_option maxRecDepth 100000 in
theorem iw_X8_finds_8 : ∀ w ∈ u_ws RX8 TX8 21, w ∈ wsX8_finds := fun _ h => List.mem_cons_of_mem _ (List.mem_append_right _ h)
abbrev rm_X8_finds : Room := { frames := 1, cells := 0, slots := 0, locals := 23 }
noncomputable def fl_X8_finds_4 {ρ : Type} (N : Nat) (x1 : Int32) (K : Int32 → Wd → Option ρ) : Nat → Int32 → Int32 → Wd → Option ρ
  | 0, _, _, _ => none
  | n + 1, x2, x3, s0 =>
    if 20 ≤ x3 then (
      K x2 s0)
    else (
      gI s0 0 5 fun v1 =>
      bP (f_X8_isIn N v1 x3) fun v2 =>
      jn (fun (v3 : Int32) (s4 : Wd) => ((
        fl_X8_finds_4 N x1 K n v3 (x3 + 1) s4) : Option (ρ))) fun j70 =>
      if v2 = 0 then (
        j70 x2 s0)
      else (
        rI s0 1 20 x3 fun v5 =>
        jn (fun (_u : Unit) => ((
          aI s0 12 3 x2 x3 fun s6 =>
          bP (f_X8_otherEnd N s6 x3 x1) fun v7 =>
          aI s6 11 3 x2 v7 fun s8 =>
          j70 (x2 + 1) s8) : Option (ρ))) fun j41 =>
        if v5 = x1 then (
          j41 ())
        else (
          rI s0 2 20 x3 fun v9 =>
          if v9 = x1 then (
            j41 ())
          else (
            j70 x2 s0))))
set_option maxHeartbeats 4000000 in
set_option maxRecDepth 100000 in
theorem gl_X8_finds_4 {ρ : Type} {Q : ρ → State → Prop} {N : Nat} {x1 : Int32} {K : Int32 → Wd → Option ρ} (E : EV p s m args meth c cX8_finds 6 RX8 wsX8_finds (some .boolean) D cy (wsM cy h) (adM h)) (hK : ∀ (x2' : Int32) (s' : Wd), G p l e (headSpec wsX8_finds rm_X8_finds).room s m args below meth c 6 0 0 D (wsM cy h) (adM h) Q 76 [(0, .ref (h 0)), (1, .int x1), (2, .int (x2'))] [] s' (K x2' s')) :
  ∀ (n : Nat) (x2 : Int32) (x3 : Int32) (s0 : Wd), G p l e (headSpec wsX8_finds rm_X8_finds).room s m args below meth c 6 0 0 D (wsM cy h) (adM h) Q 4 [(0, .ref (h 0)), (1, .int x1), (2, .int x2), (3, .int x3)] [] s0 (fl_X8_finds_4 N x1 K n x2 x3 s0) := by
  intro n
  induction n with
  | zero => intros; exact G.no
  | succ n ih =>
    intro x2 x3 s0
    rw [fl_X8_finds_4]
    refine G.iload_n E dX8_finds_4 3 rfl rfl ?_
    refine G.bipush (v := 20) E dX8_finds_5 (by decide) ?_
    refine G.icmp_ge (tgt := 76) E dX8_finds_7 (by decide) ?_ ?_
    · refine G.loc [0, 1, 2] rfl ?_
      exact hK x2 s0
    · refine G.aload_n E dX8_finds_10 0 rfl rfl ?_
      refine G.getI (T := TX8) (N := 21) (C := RX8) (q0 := 0) (i := 5) E dX8_finds_11 iw_X8_finds_8 (wsM_at0 _ _ _) rfl (by decide) rfl (List.mem_of_getElem? (i := 1) rfl) (fun v1 => ?_)
      refine G.iload_n E dX8_finds_14 3 rfl rfl ?_
      refine G.callSi (n := 2) (As := [.int v1, .int x3]) E dX8_finds_15 (fun _ hv => c_X8_isIn E.wf hv) gX8_finds_X8_isIn rfl rfl rfl (by decide +kernel) ⟨Nat.le_of_ble_eq_true rfl, Nat.le_of_ble_eq_true rfl⟩ rfl (Nat.le_of_ble_eq_true rfl) ⟨Nat.le_of_ble_eq_true rfl, Nat.le_of_ble_eq_true rfl⟩ (fun v2 => ?_)
      refine G.jn (P := fun j => ∀ (v3 : Int32) (s4 : Wd), G p l e (headSpec wsX8_finds rm_X8_finds).room s m args below meth c 6 0 0 D (wsM cy h) (adM h) Q 70 [(0, .ref (h 0)), (1, .int x1), (2, .int v3), (3, .int x3)] [] s4 (j v3 s4)) ?_ (fun j70 hj70 => ?_)
      · intro v3 s4
        refine G.iinc (v := x3 + 1) (lv' := [(3, .int (x3 + 1)), (0, .ref (h 0)), (1, .int x1), (2, .int v3)]) E dX8_finds_70 3 rfl rfl (by decide) rfl ?_
        refine G.goto (tgt := 4) E dX8_finds_73 (by decide) ?_
        refine G.loc [1, 2, 3, 0] rfl ?_
        exact ih v3 (x3 + 1) s4
      · refine G.if_eq (tgt := 70) E dX8_finds_18 (by decide) ?_ ?_
        · refine G.loc [0, 1, 2, 3] rfl ?_
          exact hj70 x2 s0
        · refine G.aload_n E dX8_finds_21 0 rfl rfl ?_
          refine G.getR (T := TX8) (N := 21) (C := RX8) (q0 := 0) (i := 6) E dX8_finds_22 iw_X8_finds_8 (wsM_at0 _ _ _) rfl (by decide) rfl (List.mem_of_getElem? (i := 2) rfl) ?_
          refine G.iload_n E dX8_finds_25 3 rfl rfl ?_
          refine G.iald (q0 := 1) E dX8_finds_26 (wsM_at1 _ _ _) (fun v5 => ?_)
          refine G.iload_n E dX8_finds_27 1 rfl rfl ?_
          refine G.jn (P := fun j => ∀ (_u : Unit), G p l e (headSpec wsX8_finds rm_X8_finds).room s m args below meth c 6 0 0 D (wsM cy h) (adM h) Q 41 [(0, .ref (h 0)), (1, .int x1), (2, .int x2), (3, .int x3)] [] s0 (j _u)) ?_ (fun j41 hj41 => ?_)
          · intro _u
            refine G.aload_n E dX8_finds_41 0 rfl rfl ?_
            refine G.getR (T := TX8) (N := 21) (C := RX8) (q0 := 0) (i := 20) E dX8_finds_42 iw_X8_finds_8 (wsM_at0 _ _ _) rfl (by decide) rfl (List.mem_of_getElem? (i := 4) rfl) ?_
            refine G.iload_n E dX8_finds_45 2 rfl rfl ?_
            refine G.iload_n E dX8_finds_46 3 rfl rfl ?_
            refine G.iast (q0 := 12) E dX8_finds_47 (wsM_at12 _ _ _) (fun j => wsM_set12 _ _ _ _ j) (fun s6 => ?_)
            refine G.aload_n E dX8_finds_48 0 rfl rfl ?_
            refine G.getR (T := TX8) (N := 21) (C := RX8) (q0 := 0) (i := 19) E dX8_finds_49 iw_X8_finds_8 (wsM_at0 _ _ _) rfl (by decide) rfl (List.mem_of_getElem? (i := 5) rfl) ?_
            refine G.iload_n E dX8_finds_52 2 rfl rfl ?_
            refine G.iload_n E dX8_finds_53 3 rfl rfl ?_
            refine G.iload_n E dX8_finds_54 1 rfl rfl ?_
            refine G.aload_n E dX8_finds_55 0 rfl rfl ?_
            refine G.getR (T := TX8) (N := 21) (C := RX8) (q0 := 0) (i := 6) E dX8_finds_56 iw_X8_finds_8 (wsM_at0 _ _ _) rfl (by decide) rfl (List.mem_of_getElem? (i := 2) rfl) ?_
            refine G.aload_n E dX8_finds_59 0 rfl rfl ?_
            refine G.getR (T := TX8) (N := 21) (C := RX8) (q0 := 0) (i := 7) E dX8_finds_60 iw_X8_finds_8 (wsM_at0 _ _ _) rfl (by decide) rfl (List.mem_of_getElem? (i := 3) rfl) ?_
            refine G.callSi (n := 4) (As := [.int x3, .int x1, .ref (h 1), .ref (h 2)]) E dX8_finds_63 (fun _ hv => c_X8_otherEnd E.wf hv) gX8_finds_X8_otherEnd rfl rfl rfl (by decide +kernel) ⟨Nat.le_of_ble_eq_true rfl, Nat.le_of_ble_eq_true rfl⟩ rfl (Nat.le_of_ble_eq_true rfl) ⟨Nat.le_of_ble_eq_true rfl, Nat.le_of_ble_eq_true rfl⟩ (fun v7 => ?_)
            refine G.iast (q0 := 11) E dX8_finds_66 (wsM_at11 _ _ _) (fun j => wsM_set11 _ _ _ _ j) (fun s8 => ?_)
            refine G.iinc (v := x2 + 1) (lv' := [(2, .int (x2 + 1)), (0, .ref (h 0)), (1, .int x1), (3, .int x3)]) E dX8_finds_67 2 rfl rfl (by decide) rfl ?_
            refine G.loc [1, 2, 0, 3] rfl ?_
            exact hj70 (x2 + 1) s8
          · refine G.icmp_eq (tgt := 41) E dX8_finds_28 (by decide) ?_ ?_
            · refine G.loc [0, 1, 2, 3] rfl ?_
              exact hj41 ()
            · refine G.aload_n E dX8_finds_31 0 rfl rfl ?_
              refine G.getR (T := TX8) (N := 21) (C := RX8) (q0 := 0) (i := 7) E dX8_finds_32 iw_X8_finds_8 (wsM_at0 _ _ _) rfl (by decide) rfl (List.mem_of_getElem? (i := 3) rfl) ?_
              refine G.iload_n E dX8_finds_35 3 rfl rfl ?_
              refine G.iald (q0 := 2) E dX8_finds_36 (wsM_at2 _ _ _) (fun v9 => ?_)
              refine G.iload_n E dX8_finds_37 1 rfl rfl ?_
              refine G.icmp_ne (tgt := 70) E dX8_finds_38 (by decide) ?_ ?_
              · refine G.loc [0, 1, 2, 3] rfl ?_
                exact hj41 ()
              · refine G.loc [0, 1, 2, 3] rfl ?_
                exact hj70 x2 s0
noncomputable def fl_X8_finds_111 {ρ : Type} (N : Nat) (σ : Wd) (x1 : Int32) (x2 : Int32) (x4 : Int32) (K : Int32 → Option ρ) : Nat → Int32 → Int32 → Option ρ
  | 0, _, _ => none
  | n + 1, x3, x5 =>
    if x4 ≤ x5 then (
      K x3)
    else (
      jn (fun (v13 : Int32) => ((
        fl_X8_finds_111 N σ x1 x2 x4 K n v13 (x5 + 1)) : Option (ρ))) fun j144 =>
      jn (fun (_u : Unit) => ((
        j144 0) : Option (ρ))) fun j143 =>
      if x3 = 0 then (
        j143 ())
      else (
        rI σ 11 3 x5 fun v14 =>
        rI σ 11 3 x4 fun v15 =>
        if v14 = v15 then (
          j143 ())
        else (
          j144 1)))
set_option maxHeartbeats 4000000 in
set_option maxRecDepth 100000 in
theorem gl_X8_finds_111 {ρ : Type} {Q : ρ → State → Prop} {N : Nat} {σ : Wd} {x1 : Int32} {x2 : Int32} {x4 : Int32} {K : Int32 → Option ρ} (E : EV p s m args meth c cX8_finds 6 RX8 wsX8_finds (some .boolean) D cy (wsM cy h) (adM h)) (hK : ∀ (x3' : Int32), G p l e (headSpec wsX8_finds rm_X8_finds).room s m args below meth c 6 0 0 D (wsM cy h) (adM h) Q 151 [(0, .ref (h 0)), (1, .int x1), (2, .int x2), (3, .int (x3')), (4, .int x4)] [] σ (K x3')) :
  ∀ (n : Nat) (x3 : Int32) (x5 : Int32), G p l e (headSpec wsX8_finds rm_X8_finds).room s m args below meth c 6 0 0 D (wsM cy h) (adM h) Q 111 [(0, .ref (h 0)), (1, .int x1), (2, .int x2), (3, .int x3), (4, .int x4), (5, .int x5)] [] σ (fl_X8_finds_111 N σ x1 x2 x4 K n x3 x5) := by
  intro n
  induction n with
  | zero => intros; exact G.no
  | succ n ih =>
    intro x3 x5
    rw [fl_X8_finds_111]
    refine G.iload E dX8_finds_111 5 rfl ?_
    refine G.iload E dX8_finds_113 4 rfl ?_
    refine G.icmp_ge (tgt := 151) E dX8_finds_115 (by decide) ?_ ?_
    · refine G.loc [0, 1, 2, 3, 4] rfl ?_
      exact hK x3
    · refine G.iload_n E dX8_finds_118 3 rfl rfl ?_
      refine G.jn (P := fun j => ∀ (v13 : Int32), G p l e (headSpec wsX8_finds rm_X8_finds).room s m args below meth c 6 0 0 D (wsM cy h) (adM h) Q 144 [(0, .ref (h 0)), (1, .int x1), (2, .int x2), (4, .int x4), (5, .int x5)] [.int v13] σ (j v13)) ?_ (fun j144 hj144 => ?_)
      · intro v13
        refine G.istore_n (lv' := [(3, .int v13), (0, .ref (h 0)), (1, .int x1), (2, .int x2), (4, .int x4), (5, .int x5)]) E dX8_finds_144 rfl (by decide) rfl ?_
        refine G.iinc (v := x5 + 1) (lv' := [(5, .int (x5 + 1)), (3, .int v13), (0, .ref (h 0)), (1, .int x1), (2, .int x2), (4, .int x4)]) E dX8_finds_145 5 rfl rfl (by decide) rfl ?_
        refine G.goto (tgt := 111) E dX8_finds_148 (by decide) ?_
        refine G.loc [2, 3, 4, 1, 5, 0] rfl ?_
        exact ih v13 (x5 + 1)
      · refine G.jn (P := fun j => ∀ (_u : Unit), G p l e (headSpec wsX8_finds rm_X8_finds).room s m args below meth c 6 0 0 D (wsM cy h) (adM h) Q 143 [(0, .ref (h 0)), (1, .int x1), (2, .int x2), (4, .int x4), (5, .int x5)] [] σ (j _u)) ?_ (fun j143 hj143 => ?_)
        · intro _u
          refine G.iconst (v := 0) E dX8_finds_143 (by decide) ?_
          refine G.loc [0, 1, 2, 3, 4] rfl ?_
          exact hj144 0
        · refine G.if_eq (tgt := 143) E dX8_finds_119 (by decide) ?_ ?_
          · refine G.loc [0, 1, 2, 4, 5] rfl ?_
            exact hj143 ()
          · refine G.aload_n E dX8_finds_122 0 rfl rfl ?_
            refine G.getR (T := TX8) (N := 21) (C := RX8) (q0 := 0) (i := 19) E dX8_finds_123 iw_X8_finds_8 (wsM_at0 _ _ _) rfl (by decide) rfl (List.mem_of_getElem? (i := 5) rfl) ?_
            refine G.iload E dX8_finds_126 5 rfl ?_
            refine G.iald (q0 := 11) E dX8_finds_128 (wsM_at11 _ _ _) (fun v14 => ?_)
            refine G.aload_n E dX8_finds_129 0 rfl rfl ?_
            refine G.getR (T := TX8) (N := 21) (C := RX8) (q0 := 0) (i := 19) E dX8_finds_130 iw_X8_finds_8 (wsM_at0 _ _ _) rfl (by decide) rfl (List.mem_of_getElem? (i := 5) rfl) ?_
            refine G.iload E dX8_finds_133 4 rfl ?_
            refine G.iald (q0 := 11) E dX8_finds_135 (wsM_at11 _ _ _) (fun v15 => ?_)
            refine G.icmp_eq (tgt := 143) E dX8_finds_136 (by decide) ?_ ?_
            · refine G.loc [0, 1, 2, 4, 5] rfl ?_
              exact hj143 ()
            · refine G.iconst (v := 1) E dX8_finds_139 (by decide) ?_
              refine G.goto (tgt := 144) E dX8_finds_140 (by decide) ?_
              refine G.loc [0, 1, 2, 4, 5] rfl ?_
              exact hj144 1
noncomputable def fl_X8_finds_81 {ρ : Type} (N : Nat) (σ : Wd) (x1 : Int32) (x2 : Int32) (K : Int32 → Option ρ) : Nat → Int32 → Int32 → Option ρ
  | 0, _, _ => none
  | n + 1, x3, x4 =>
    if x2 ≤ x4 then (
      K x3)
    else (
      jn (fun (v12 : Int32) => ((
        fl_X8_finds_111 N σ x1 x2 x4 (fun v16 =>
          fl_X8_finds_81 N σ x1 x2 K n v16 (x4 + 1)) N v12 0) : Option (ρ))) fun j107 =>
      jn (fun (_u : Unit) => ((
        j107 0) : Option (ρ))) fun j106 =>
      if x3 = 0 then (
        j106 ())
      else (
        rI σ 11 3 x4 fun v17 =>
        if v17 = x1 then (
          j106 ())
        else (
          j107 1)))
set_option maxHeartbeats 4000000 in
set_option maxRecDepth 100000 in
theorem gl_X8_finds_81 {ρ : Type} {Q : ρ → State → Prop} {N : Nat} {σ : Wd} {x1 : Int32} {x2 : Int32} {K : Int32 → Option ρ} (E : EV p s m args meth c cX8_finds 6 RX8 wsX8_finds (some .boolean) D cy (wsM cy h) (adM h)) (hK : ∀ (x3' : Int32), G p l e (headSpec wsX8_finds rm_X8_finds).room s m args below meth c 6 0 0 D (wsM cy h) (adM h) Q 157 [(3, .int (x3'))] [] σ (K x3')) :
  ∀ (n : Nat) (x3 : Int32) (x4 : Int32), G p l e (headSpec wsX8_finds rm_X8_finds).room s m args below meth c 6 0 0 D (wsM cy h) (adM h) Q 81 [(0, .ref (h 0)), (1, .int x1), (2, .int x2), (3, .int x3), (4, .int x4)] [] σ (fl_X8_finds_81 N σ x1 x2 K n x3 x4) := by
  intro n
  induction n with
  | zero => intros; exact G.no
  | succ n ih =>
    intro x3 x4
    rw [fl_X8_finds_81]
    refine G.iload E dX8_finds_81 4 rfl ?_
    refine G.iload_n E dX8_finds_83 2 rfl rfl ?_
    refine G.icmp_ge (tgt := 157) E dX8_finds_84 (by decide) ?_ ?_
    · refine G.loc [3] rfl ?_
      exact hK x3
    · refine G.iload_n E dX8_finds_87 3 rfl rfl ?_
      refine G.jn (P := fun j => ∀ (v12 : Int32), G p l e (headSpec wsX8_finds rm_X8_finds).room s m args below meth c 6 0 0 D (wsM cy h) (adM h) Q 107 [(0, .ref (h 0)), (1, .int x1), (2, .int x2), (4, .int x4)] [.int v12] σ (j v12)) ?_ (fun j107 hj107 => ?_)
      · intro v12
        refine G.istore_n (lv' := [(3, .int v12), (0, .ref (h 0)), (1, .int x1), (2, .int x2), (4, .int x4)]) E dX8_finds_107 rfl (by decide) rfl ?_
        refine G.iconst (v := 0) E dX8_finds_108 (by decide) ?_
        refine G.istore (lv' := [(5, .int 0), (3, .int v12), (0, .ref (h 0)), (1, .int x1), (2, .int x2), (4, .int x4)]) E dX8_finds_109 (by decide) rfl ?_
        refine G.loc [2, 3, 4, 1, 5, 0] rfl ?_
        refine gl_X8_finds_111 E (fun v16 => ?_) N _ _
        refine G.iinc (v := x4 + 1) (lv' := [(4, .int (x4 + 1)), (0, .ref (h 0)), (1, .int x1), (2, .int x2), (3, .int v16)]) E dX8_finds_151 4 rfl rfl (by decide) rfl ?_
        refine G.goto (tgt := 81) E dX8_finds_154 (by decide) ?_
        refine G.loc [1, 2, 3, 4, 0] rfl ?_
        exact ih v16 (x4 + 1)
      · refine G.jn (P := fun j => ∀ (_u : Unit), G p l e (headSpec wsX8_finds rm_X8_finds).room s m args below meth c 6 0 0 D (wsM cy h) (adM h) Q 106 [(0, .ref (h 0)), (1, .int x1), (2, .int x2), (4, .int x4)] [] σ (j _u)) ?_ (fun j106 hj106 => ?_)
        · intro _u
          refine G.iconst (v := 0) E dX8_finds_106 (by decide) ?_
          refine G.loc [0, 1, 2, 3] rfl ?_
          exact hj107 0
        · refine G.if_eq (tgt := 106) E dX8_finds_88 (by decide) ?_ ?_
          · refine G.loc [0, 1, 2, 4] rfl ?_
            exact hj106 ()
          · refine G.aload_n E dX8_finds_91 0 rfl rfl ?_
            refine G.getR (T := TX8) (N := 21) (C := RX8) (q0 := 0) (i := 19) E dX8_finds_92 iw_X8_finds_8 (wsM_at0 _ _ _) rfl (by decide) rfl (List.mem_of_getElem? (i := 5) rfl) ?_
            refine G.iload E dX8_finds_95 4 rfl ?_
            refine G.iald (q0 := 11) E dX8_finds_97 (wsM_at11 _ _ _) (fun v17 => ?_)
            refine G.iload_n E dX8_finds_98 1 rfl rfl ?_
            refine G.icmp_eq (tgt := 106) E dX8_finds_99 (by decide) ?_ ?_
            · refine G.loc [0, 1, 2, 4] rfl ?_
              exact hj106 ()
            · refine G.iconst (v := 1) E dX8_finds_102 (by decide) ?_
              refine G.goto (tgt := 107) E dX8_finds_103 (by decide) ?_
              refine G.loc [0, 1, 2, 4] rfl ?_
              exact hj107 1
noncomputable def f_X8_finds (N : Nat) (σ : Wd) (a0 : Int32) : Option (Int32 × Wd) :=
  fl_X8_finds_4 N a0 (fun v10 s11 =>
    fl_X8_finds_81 N s11 a0 v10 (fun v18 =>
      zb v18 (some (v18, s11))) N 1 0) N 0 0 σ
set_option maxHeartbeats 4000000 in
set_option maxRecDepth 100000 in
theorem c_X8_finds {l : Launch} {D : va_G} {cy : Nat → ClassId} {h : Nat → Nat} {N : Nat} {σ : Wd} {a0 : Int32} {r : Int32} {σ1 : Wd} (hW : WF (wsM cy h) (adM h)) (hr : f_X8_finds N σ a0 = some (r, σ1)) : Con l D cy (wsM cy h) (adM h) yX8_finds wsX8_finds rm_X8_finds 0 0 [.ref (h 0), .int a0] (some (.int r)) σ σ1 := by
  refine Con.of (ρ := Int32 × Wd) (lv0 := [(0, .ref (h 0)), (1, .int a0)]) (σ := σ) (fun r : Int32 × Wd => some (.int r.1)) (fun r => r.2) (by decide) rfl rfl (Nat.le_of_ble_eq_true rfl) rfl hW hr (fun p e s m args below meth c E => ?_)
  unfold f_X8_finds
  refine G.iconst (v := 0) E dX8_finds_0 (by decide) ?_
  refine G.istore_n (lv' := [(2, .int 0), (0, .ref (h 0)), (1, .int a0)]) E dX8_finds_1 rfl (by decide) rfl ?_
  refine G.iconst (v := 0) E dX8_finds_2 (by decide) ?_
  refine G.istore_n (lv' := [(3, .int 0), (2, .int 0), (0, .ref (h 0)), (1, .int a0)]) E dX8_finds_3 rfl (by decide) rfl ?_
  refine G.loc [2, 3, 1, 0] rfl ?_
  refine gl_X8_finds_4 E (fun v10 s11 => ?_) N _ _ _
  refine G.iconst (v := 1) E dX8_finds_76 (by decide) ?_
  refine G.istore_n (lv' := [(3, .int 1), (0, .ref (h 0)), (1, .int a0), (2, .int v10)]) E dX8_finds_77 rfl (by decide) rfl ?_
  refine G.iconst (v := 0) E dX8_finds_78 (by decide) ?_
  refine G.istore (lv' := [(4, .int 0), (3, .int 1), (0, .ref (h 0)), (1, .int a0), (2, .int v10)]) E dX8_finds_79 (by decide) rfl ?_
  refine G.loc [2, 3, 4, 1, 0] rfl ?_
  refine gl_X8_finds_81 E (fun v18 => ?_) N _ _
  refine G.iload_n E dX8_finds_157 0 rfl rfl ?_
  exact G.zret E dX8_finds_158 rfl rfl
set_option maxHeartbeats 4000000 in
set_option maxRecDepth 100000 in
theorem iw_X8_isInner_8 : ∀ w ∈ u_ws RX8 TX8 21, w ∈ wsX8_isInner := fun _ h => List.mem_cons_of_mem _ (List.mem_append_right _ h)
abbrev rm_X8_isInner : Room := { frames := 2, cells := 0, slots := 0, locals := 48 }
noncomputable def f_X8_isInner (N : Nat) (σ : Wd) (a0 : Int32) (a1 : Int32) : Option (Int32 × Wd) :=
  gI σ 0 3 fun v1 =>
  bP (f_X8_isIn N v1 a0) fun v2 =>
  if v2 = 0 then (
    bP (f_X8_wiresOf N σ a0) fun v3 =>
    if v3 = a1 then (
      bS (f_X8_finds N σ a0) fun v4 s5 =>
      if v4 = 0 then (
        some (0, s5))
      else (
        some (1, s5)))
    else (
      some (0, σ)))
  else (
    some (0, σ))
set_option maxHeartbeats 4000000 in
set_option maxRecDepth 100000 in
theorem c_X8_isInner {l : Launch} {D : va_G} {cy : Nat → ClassId} {h : Nat → Nat} {N : Nat} {σ : Wd} {a0 : Int32} {a1 : Int32} {r : Int32} {σ1 : Wd} (hW : WF (wsM cy h) (adM h)) (hr : f_X8_isInner N σ a0 a1 = some (r, σ1)) : Con l D cy (wsM cy h) (adM h) yX8_isInner wsX8_isInner rm_X8_isInner 0 0 [.ref (h 0), .int a0, .int a1] (some (.int r)) σ σ1 := by
  refine Con.of (ρ := Int32 × Wd) (lv0 := [(0, .ref (h 0)), (1, .int a0), (2, .int a1)]) (σ := σ) (fun r : Int32 × Wd => some (.int r.1)) (fun r => r.2) (by decide) rfl rfl (Nat.le_of_ble_eq_true rfl) rfl hW hr (fun p e s m args below meth c E => ?_)
  unfold f_X8_isInner
  refine G.aload_n E dX8_isInner_0 0 rfl rfl ?_
  refine G.getI (T := TX8) (N := 21) (C := RX8) (q0 := 0) (i := 3) E dX8_isInner_1 iw_X8_isInner_8 (wsM_at0 _ _ _) rfl (by decide) rfl (List.mem_of_getElem? (i := 1) rfl) (fun v1 => ?_)
  refine G.iload_n E dX8_isInner_4 1 rfl rfl ?_
  refine G.callSi (n := 2) (As := [.int v1, .int a0]) E dX8_isInner_5 (fun _ hv => c_X8_isIn E.wf hv) gX8_isInner_X8_isIn rfl rfl rfl (by decide +kernel) ⟨Nat.le_of_ble_eq_true rfl, Nat.le_of_ble_eq_true rfl⟩ rfl (Nat.le_of_ble_eq_true rfl) ⟨Nat.le_of_ble_eq_true rfl, Nat.le_of_ble_eq_true rfl⟩ (fun v2 => ?_)
  refine G.if_ne (tgt := 32) E dX8_isInner_8 (by decide) ?_ ?_
  · refine G.aload_n E dX8_isInner_11 0 rfl rfl ?_
    refine G.iload_n E dX8_isInner_12 1 rfl rfl ?_
    refine G.callVi (n := 1) (T := TX8) (N := 21) (C := RX8) (a := h 0) (q0 := 0) (As := [.int a0]) E dX8_isInner_13 (fun _ hv => c_X8_wiresOf E.wf hv) gX8_isInner_X8_wiresOf rfl rfl rfl (by decide +kernel) ⟨Nat.le_of_ble_eq_true rfl, Nat.le_of_ble_eq_true rfl⟩ (wsM_at0 _ _ _) rfl rfl (Nat.le_of_ble_eq_true rfl) ⟨Nat.le_of_ble_eq_true rfl, Nat.le_of_ble_eq_true rfl⟩ (fun v3 => ?_)
    refine G.iload_n E dX8_isInner_16 2 rfl rfl ?_
    refine G.icmp_ne (tgt := 32) E dX8_isInner_17 (by decide) ?_ ?_
    · refine G.aload_n E dX8_isInner_20 0 rfl rfl ?_
      refine G.iload_n E dX8_isInner_21 1 rfl rfl ?_
      refine G.callVis (n := 1) (T := TX8) (N := 21) (C := RX8) (a := h 0) (q0 := 0) (As := [.int a0]) E dX8_isInner_22 (fun _ _ hv => c_X8_finds E.wf hv) gX8_isInner_X8_finds rfl rfl rfl (by decide +kernel) ⟨Nat.le_of_ble_eq_true rfl, Nat.le_of_ble_eq_true rfl⟩ (wsM_at0 _ _ _) rfl rfl (Nat.le_of_ble_eq_true rfl) ⟨Nat.le_of_ble_eq_true rfl, Nat.le_of_ble_eq_true rfl⟩ (fun v4 s5 => ?_)
      refine G.if_eq (tgt := 32) E dX8_isInner_25 (by decide) ?_ ?_
      · refine G.iconst (v := 0) E dX8_isInner_32 (by decide) ?_
        exact G.zretc E dX8_isInner_33 rfl rfl rfl
      · refine G.iconst (v := 1) E dX8_isInner_28 (by decide) ?_
        refine G.goto (tgt := 33) E dX8_isInner_29 (by decide) ?_
        exact G.zretc E dX8_isInner_33 rfl rfl rfl
    · refine G.iconst (v := 0) E dX8_isInner_32 (by decide) ?_
      exact G.zretc E dX8_isInner_33 rfl rfl rfl
  · refine G.iconst (v := 0) E dX8_isInner_32 (by decide) ?_
    exact G.zretc E dX8_isInner_33 rfl rfl rfl
abbrev rm_X8_isWhole : Room := { frames := 1, cells := 0, slots := 0, locals := 22 }
noncomputable def f_X8_isWhole (N : Nat) (a0 : Int32) (a1 : Int32) : Option (Int32) :=
  mI a0 a1 fun v1 =>
  if v1 = 0 then (
    dI a0 a1 fun v2 =>
    bP (f_X8_in N v2 1 60) fun v3 =>
    if v3 = 0 then (
      some 0)
    else (
      some 1))
  else (
    some 0)
set_option maxHeartbeats 4000000 in
set_option maxRecDepth 100000 in
theorem c_X8_isWhole {l : Launch} {D : va_G} {cy : Nat → ClassId} {h : Nat → Nat} {N : Nat} {σ : Wd} {a0 : Int32} {a1 : Int32} {r : Int32} (hW : WF (wsM cy h) (adM h)) (hr : f_X8_isWhole N a0 a1 = some r) : Con l D cy (wsM cy h) (adM h) yX8_isWhole wsX8_isWhole rm_X8_isWhole 0 0 [.int a0, .int a1] (some (.int r)) σ σ := by
  refine Con.of (ρ := Int32) (lv0 := [(0, .int a0), (1, .int a1)]) (σ := σ) (fun r : Int32 => some (.int r)) (fun _ => σ) (by decide) rfl rfl (Nat.le_of_ble_eq_true rfl) rfl hW hr (fun p e s m args below meth c E => ?_)
  unfold f_X8_isWhole
  refine G.iload_n E dX8_isWhole_0 0 rfl rfl ?_
  refine G.iload_n E dX8_isWhole_1 1 rfl rfl ?_
  refine G.irem E dX8_isWhole_2 (fun v1 => ?_)
  refine G.if_ne (tgt := 22) E dX8_isWhole_3 (by decide) ?_ ?_
  · refine G.iload_n E dX8_isWhole_6 0 rfl rfl ?_
    refine G.iload_n E dX8_isWhole_7 1 rfl rfl ?_
    refine G.idiv E dX8_isWhole_8 (fun v2 => ?_)
    refine G.iconst (v := 1) E dX8_isWhole_9 (by decide) ?_
    refine G.bipush (v := 60) E dX8_isWhole_10 (by decide) ?_
    refine G.callSi (n := 3) (As := [.int v2, .int 1, .int 60]) E dX8_isWhole_12 (fun _ hv => c_X8_in E.wf hv) gX8_isWhole_X8_in rfl rfl rfl (by decide +kernel) ⟨Nat.le_of_ble_eq_true rfl, Nat.le_of_ble_eq_true rfl⟩ rfl (Nat.le_of_ble_eq_true rfl) ⟨Nat.le_of_ble_eq_true rfl, Nat.le_of_ble_eq_true rfl⟩ (fun v3 => ?_)
    refine G.if_eq (tgt := 22) E dX8_isWhole_15 (by decide) ?_ ?_
    · refine G.iconst (v := 0) E dX8_isWhole_22 (by decide) ?_
      exact G.zretc E dX8_isWhole_23 rfl rfl rfl
    · refine G.iconst (v := 1) E dX8_isWhole_18 (by decide) ?_
      refine G.goto (tgt := 23) E dX8_isWhole_19 (by decide) ?_
      exact G.zretc E dX8_isWhole_23 rfl rfl rfl
  · refine G.iconst (v := 0) E dX8_isWhole_22 (by decide) ?_
    exact G.zretc E dX8_isWhole_23 rfl rfl rfl
set_option maxHeartbeats 4000000 in
set_option maxRecDepth 100000 in
theorem iw_X8_canSeries_8 : ∀ w ∈ u_ws RX8 TX8 21, w ∈ wsX8_canSeries := fun _ h => List.mem_cons_of_mem _ (List.mem_append_right _ h)
abbrev rm_X8_canSeries : Room := { frames := 3, cells := 0, slots := 0, locals := 70 }
noncomputable def f_X8_canSeries (N : Nat) (σ : Wd) (a0 : Int32) : Option (Int32 × Wd) :=
  gI σ 0 4 fun v1 =>
  if v1 = 20 then (
    some (0, σ))
  else (
    bS (f_X8_isInner N σ a0 2) fun v2 s3 =>
    if v2 = 0 then (
      some (0, s3))
    else (
      rI s3 12 3 0 fun v4 =>
      rI s3 3 20 v4 fun v5 =>
      rI s3 12 3 1 fun v6 =>
      rI s3 3 20 v6 fun v7 =>
      bP (f_X8_isWhole N (v5 * v7) (v5 + v7)) fun v8 =>
      zb v8 (some (v8, s3))))
set_option maxHeartbeats 4000000 in
set_option maxRecDepth 100000 in
theorem c_X8_canSeries {l : Launch} {D : va_G} {cy : Nat → ClassId} {h : Nat → Nat} {N : Nat} {σ : Wd} {a0 : Int32} {r : Int32} {σ1 : Wd} (hW : WF (wsM cy h) (adM h)) (hr : f_X8_canSeries N σ a0 = some (r, σ1)) : Con l D cy (wsM cy h) (adM h) yX8_canSeries wsX8_canSeries rm_X8_canSeries 0 0 [.ref (h 0), .int a0] (some (.int r)) σ σ1 := by
  refine Con.of (ρ := Int32 × Wd) (lv0 := [(0, .ref (h 0)), (1, .int a0)]) (σ := σ) (fun r : Int32 × Wd => some (.int r.1)) (fun r => r.2) (by decide) rfl rfl (Nat.le_of_ble_eq_true rfl) rfl hW hr (fun p e s m args below meth c E => ?_)
  unfold f_X8_canSeries
  refine G.aload_n E dX8_canSeries_0 0 rfl rfl ?_
  refine G.getI (T := TX8) (N := 21) (C := RX8) (q0 := 0) (i := 4) E dX8_canSeries_1 iw_X8_canSeries_8 (wsM_at0 _ _ _) rfl (by decide) rfl (List.mem_of_getElem? (i := 1) rfl) (fun v1 => ?_)
  refine G.bipush (v := 20) E dX8_canSeries_4 (by decide) ?_
  refine G.icmp_eq (tgt := 18) E dX8_canSeries_6 (by decide) ?_ ?_
  · refine G.iconst (v := 0) E dX8_canSeries_18 (by decide) ?_
    exact G.zretc E dX8_canSeries_19 rfl rfl rfl
  · refine G.aload_n E dX8_canSeries_9 0 rfl rfl ?_
    refine G.iload_n E dX8_canSeries_10 1 rfl rfl ?_
    refine G.iconst (v := 2) E dX8_canSeries_11 (by decide) ?_
    refine G.callVis (n := 2) (T := TX8) (N := 21) (C := RX8) (a := h 0) (q0 := 0) (As := [.int a0, .int 2]) E dX8_canSeries_12 (fun _ _ hv => c_X8_isInner E.wf hv) gX8_canSeries_X8_isInner rfl rfl rfl (by decide +kernel) ⟨Nat.le_of_ble_eq_true rfl, Nat.le_of_ble_eq_true rfl⟩ (wsM_at0 _ _ _) rfl rfl (Nat.le_of_ble_eq_true rfl) ⟨Nat.le_of_ble_eq_true rfl, Nat.le_of_ble_eq_true rfl⟩ (fun v2 s3 => ?_)
    refine G.if_ne (tgt := 20) E dX8_canSeries_15 (by decide) ?_ ?_
    · refine G.iconst (v := 0) E dX8_canSeries_18 (by decide) ?_
      exact G.zretc E dX8_canSeries_19 rfl rfl rfl
    · refine G.aload_n E dX8_canSeries_20 0 rfl rfl ?_
      refine G.getR (T := TX8) (N := 21) (C := RX8) (q0 := 0) (i := 8) E dX8_canSeries_21 iw_X8_canSeries_8 (wsM_at0 _ _ _) rfl (by decide) rfl (List.mem_of_getElem? (i := 2) rfl) ?_
      refine G.aload_n E dX8_canSeries_24 0 rfl rfl ?_
      refine G.getR (T := TX8) (N := 21) (C := RX8) (q0 := 0) (i := 20) E dX8_canSeries_25 iw_X8_canSeries_8 (wsM_at0 _ _ _) rfl (by decide) rfl (List.mem_of_getElem? (i := 3) rfl) ?_
      refine G.iconst (v := 0) E dX8_canSeries_28 (by decide) ?_
      refine G.iald (q0 := 12) E dX8_canSeries_29 (wsM_at12 _ _ _) (fun v4 => ?_)
      refine G.iald (q0 := 3) E dX8_canSeries_30 (wsM_at3 _ _ _) (fun v5 => ?_)
      refine G.istore_n (lv' := [(2, .int v5), (0, .ref (h 0)), (1, .int a0)]) E dX8_canSeries_31 rfl (by decide) rfl ?_
      refine G.aload_n E dX8_canSeries_32 1 rfl rfl ?_
      refine G.getR (T := TX8) (N := 21) (C := RX8) (q0 := 0) (i := 8) E dX8_canSeries_33 iw_X8_canSeries_8 (wsM_at0 _ _ _) rfl (by decide) rfl (List.mem_of_getElem? (i := 2) rfl) ?_
      refine G.aload_n E dX8_canSeries_36 1 rfl rfl ?_
      refine G.getR (T := TX8) (N := 21) (C := RX8) (q0 := 0) (i := 20) E dX8_canSeries_37 iw_X8_canSeries_8 (wsM_at0 _ _ _) rfl (by decide) rfl (List.mem_of_getElem? (i := 3) rfl) ?_
      refine G.iconst (v := 1) E dX8_canSeries_40 (by decide) ?_
      refine G.iald (q0 := 12) E dX8_canSeries_41 (wsM_at12 _ _ _) (fun v6 => ?_)
      refine G.iald (q0 := 3) E dX8_canSeries_42 (wsM_at3 _ _ _) (fun v7 => ?_)
      refine G.istore_n (lv' := [(3, .int v7), (2, .int v5), (0, .ref (h 0)), (1, .int a0)]) E dX8_canSeries_43 rfl (by decide) rfl ?_
      refine G.iload_n E dX8_canSeries_44 1 rfl rfl ?_
      refine G.iload_n E dX8_canSeries_45 0 rfl rfl ?_
      refine G.imul E dX8_canSeries_46 ?_
      refine G.iload_n E dX8_canSeries_47 1 rfl rfl ?_
      refine G.iload_n E dX8_canSeries_48 0 rfl rfl ?_
      refine G.iadd E dX8_canSeries_49 ?_
      refine G.callSi (n := 2) (As := [.int (v5 * v7), .int (v5 + v7)]) E dX8_canSeries_50 (fun _ hv => c_X8_isWhole E.wf hv) gX8_canSeries_X8_isWhole rfl rfl rfl (by decide +kernel) ⟨Nat.le_of_ble_eq_true rfl, Nat.le_of_ble_eq_true rfl⟩ rfl (Nat.le_of_ble_eq_true rfl) ⟨Nat.le_of_ble_eq_true rfl, Nat.le_of_ble_eq_true rfl⟩ (fun v8 => ?_)
      exact G.zret E dX8_canSeries_53 rfl rfl
set_option maxHeartbeats 4000000 in
set_option maxRecDepth 100000 in
theorem iw_X8_joins_8 : ∀ w ∈ u_ws RX8 TX8 21, w ∈ wsX8_joins := fun _ h => List.mem_cons_of_mem _ (List.mem_append_right _ h)
abbrev rm_X8_joins : Room := { frames := 1, cells := 0, slots := 0, locals := 21 }
noncomputable def f_X8_joins (N : Nat) (σ : Wd) (a0 : Int32) (a1 : Int32) (a2 : Int32) : Option (Int32) :=
  gI σ 0 5 fun v1 =>
  bP (f_X8_isIn N v1 a0) fun v2 =>
  if v2 = 0 then (
    some 0)
  else (
    rI σ 1 20 a0 fun v3 =>
    jn (fun (_u : Unit) => ((
      rI σ 1 20 a0 fun v4 =>
      if v4 = a2 then (
        rI σ 2 20 a0 fun v5 =>
        if v5 = a1 then (
          some 1)
        else (
          some 0))
      else (
        some 0)) : Option (Int32))) fun j31 =>
    if v3 = a1 then (
      rI σ 2 20 a0 fun v6 =>
      if v6 = a2 then (
        some 1)
      else (
        j31 ()))
    else (
      j31 ()))
set_option maxHeartbeats 4000000 in
set_option maxRecDepth 100000 in
theorem c_X8_joins {l : Launch} {D : va_G} {cy : Nat → ClassId} {h : Nat → Nat} {N : Nat} {σ : Wd} {a0 : Int32} {a1 : Int32} {a2 : Int32} {r : Int32} (hW : WF (wsM cy h) (adM h)) (hr : f_X8_joins N σ a0 a1 a2 = some r) : Con l D cy (wsM cy h) (adM h) yX8_joins wsX8_joins rm_X8_joins 0 0 [.ref (h 0), .int a0, .int a1, .int a2] (some (.int r)) σ σ := by
  refine Con.of (ρ := Int32) (lv0 := [(0, .ref (h 0)), (1, .int a0), (2, .int a1), (3, .int a2)]) (σ := σ) (fun r : Int32 => some (.int r)) (fun _ => σ) (by decide) rfl rfl (Nat.le_of_ble_eq_true rfl) rfl hW hr (fun p e s m args below meth c E => ?_)
  unfold f_X8_joins
  refine G.aload_n E dX8_joins_0 0 rfl rfl ?_
  refine G.getI (T := TX8) (N := 21) (C := RX8) (q0 := 0) (i := 5) E dX8_joins_1 iw_X8_joins_8 (wsM_at0 _ _ _) rfl (by decide) rfl (List.mem_of_getElem? (i := 1) rfl) (fun v1 => ?_)
  refine G.iload_n E dX8_joins_4 1 rfl rfl ?_
  refine G.callSi (n := 2) (As := [.int v1, .int a0]) E dX8_joins_5 (fun _ hv => c_X8_isIn E.wf hv) gX8_joins_X8_isIn rfl rfl rfl (by decide +kernel) ⟨Nat.le_of_ble_eq_true rfl, Nat.le_of_ble_eq_true rfl⟩ rfl (Nat.le_of_ble_eq_true rfl) ⟨Nat.le_of_ble_eq_true rfl, Nat.le_of_ble_eq_true rfl⟩ (fun v2 => ?_)
  refine G.if_eq (tgt := 55) E dX8_joins_8 (by decide) ?_ ?_
  · refine G.iconst (v := 0) E dX8_joins_55 (by decide) ?_
    exact G.zretc E dX8_joins_56 rfl rfl rfl
  · refine G.aload_n E dX8_joins_11 0 rfl rfl ?_
    refine G.getR (T := TX8) (N := 21) (C := RX8) (q0 := 0) (i := 6) E dX8_joins_12 iw_X8_joins_8 (wsM_at0 _ _ _) rfl (by decide) rfl (List.mem_of_getElem? (i := 2) rfl) ?_
    refine G.iload_n E dX8_joins_15 1 rfl rfl ?_
    refine G.iald (q0 := 1) E dX8_joins_16 (wsM_at1 _ _ _) (fun v3 => ?_)
    refine G.iload_n E dX8_joins_17 2 rfl rfl ?_
    refine G.jn (P := fun j => ∀ (_u : Unit), G p l e (headSpec wsX8_joins rm_X8_joins).room s m args below meth c 4 0 0 D (wsM cy h) (adM h) (QM D (wsM cy h) (adM h) below args s 0 0 (fun r : Int32 => some (.int r)) (fun _ => σ)) 31 [(0, .ref (h 0)), (1, .int a0), (2, .int a1), (3, .int a2)] [] σ (j _u)) ?_ (fun j31 hj31 => ?_)
    · intro _u
      refine G.aload_n E dX8_joins_31 0 rfl rfl ?_
      refine G.getR (T := TX8) (N := 21) (C := RX8) (q0 := 0) (i := 6) E dX8_joins_32 iw_X8_joins_8 (wsM_at0 _ _ _) rfl (by decide) rfl (List.mem_of_getElem? (i := 2) rfl) ?_
      refine G.iload_n E dX8_joins_35 1 rfl rfl ?_
      refine G.iald (q0 := 1) E dX8_joins_36 (wsM_at1 _ _ _) (fun v4 => ?_)
      refine G.iload_n E dX8_joins_37 3 rfl rfl ?_
      refine G.icmp_ne (tgt := 55) E dX8_joins_38 (by decide) ?_ ?_
      · refine G.aload_n E dX8_joins_41 0 rfl rfl ?_
        refine G.getR (T := TX8) (N := 21) (C := RX8) (q0 := 0) (i := 7) E dX8_joins_42 iw_X8_joins_8 (wsM_at0 _ _ _) rfl (by decide) rfl (List.mem_of_getElem? (i := 3) rfl) ?_
        refine G.iload_n E dX8_joins_45 1 rfl rfl ?_
        refine G.iald (q0 := 2) E dX8_joins_46 (wsM_at2 _ _ _) (fun v5 => ?_)
        refine G.iload_n E dX8_joins_47 2 rfl rfl ?_
        refine G.icmp_ne (tgt := 55) E dX8_joins_48 (by decide) ?_ ?_
        · refine G.iconst (v := 1) E dX8_joins_51 (by decide) ?_
          refine G.goto (tgt := 56) E dX8_joins_52 (by decide) ?_
          exact G.zretc E dX8_joins_56 rfl rfl rfl
        · refine G.iconst (v := 0) E dX8_joins_55 (by decide) ?_
          exact G.zretc E dX8_joins_56 rfl rfl rfl
      · refine G.iconst (v := 0) E dX8_joins_55 (by decide) ?_
        exact G.zretc E dX8_joins_56 rfl rfl rfl
    · refine G.icmp_ne (tgt := 31) E dX8_joins_18 (by decide) ?_ ?_
      · refine G.aload_n E dX8_joins_21 0 rfl rfl ?_
        refine G.getR (T := TX8) (N := 21) (C := RX8) (q0 := 0) (i := 7) E dX8_joins_22 iw_X8_joins_8 (wsM_at0 _ _ _) rfl (by decide) rfl (List.mem_of_getElem? (i := 3) rfl) ?_
        refine G.iload_n E dX8_joins_25 1 rfl rfl ?_
        refine G.iald (q0 := 2) E dX8_joins_26 (wsM_at2 _ _ _) (fun v6 => ?_)
        refine G.iload_n E dX8_joins_27 3 rfl rfl ?_
        refine G.icmp_eq (tgt := 51) E dX8_joins_28 (by decide) ?_ ?_
        · refine G.iconst (v := 1) E dX8_joins_51 (by decide) ?_
          refine G.goto (tgt := 56) E dX8_joins_52 (by decide) ?_
          exact G.zretc E dX8_joins_56 rfl rfl rfl
        · refine G.loc [0, 1, 2, 3] rfl ?_
          exact hj31 ()
      · refine G.loc [0, 1, 2, 3] rfl ?_
        exact hj31 ()
set_option maxHeartbeats 4000000 in
set_option maxRecDepth 100000 in
theorem iw_X8_findsTriangle_8 : ∀ w ∈ u_ws RX8 TX8 21, w ∈ wsX8_findsTriangle := fun _ h => List.mem_cons_of_mem _ (List.mem_append_right _ h)
abbrev rm_X8_findsTriangle : Room := { frames := 2, cells := 0, slots := 0, locals := 44 }
noncomputable def fl_X8_findsTriangle_117 {ρ : Type} (N : Nat) (x1 : Int32) (x2 : Int32) (x3 : Int32) (x4 : Int32) (x5 : Int32) (K : Wd → Option ρ) : Nat → Int32 → Wd → Option ρ
  | 0, _, _ => none
  | n + 1, x6, s0 =>
    if x6 < 0 then (
      K s0)
    else (
      if x5 = x2 then (
        K s0)
      else (
        if x5 = x3 then (
          K s0)
        else (
          bP (f_X8_joins N s0 x6 x3 x5) fun v9 =>
          jn (fun (v10 : Int32) => ((
            aI s0 12 3 2 v10 fun s11 =>
            fl_X8_findsTriangle_117 N x1 x2 x3 x4 x5 K n (x6 + (-1)) s11) : Option (ρ))) fun j162 =>
          if v9 = 0 then (
            rI s0 12 3 2 fun v12 =>
            j162 v12)
          else (
            j162 x6))))
set_option maxHeartbeats 4000000 in
set_option maxRecDepth 100000 in
theorem gl_X8_findsTriangle_117 {ρ : Type} {Q : ρ → State → Prop} {N : Nat} {x1 : Int32} {x2 : Int32} {x3 : Int32} {x4 : Int32} {x5 : Int32} {K : Wd → Option ρ} (E : EV p s m args meth c cX8_findsTriangle 7 RX8 wsX8_findsTriangle (some .boolean) D cy (wsM cy h) (adM h)) (hK : ∀ (s' : Wd), G p l e (headSpec wsX8_findsTriangle rm_X8_findsTriangle).room s m args below meth c 7 0 0 D (wsM cy h) (adM h) Q 169 [(0, .ref (h 0)), (1, .int x1), (2, .int x2), (3, .int x3), (4, .int x4), (5, .int x5)] [] s' (K s')) :
  ∀ (n : Nat) (x6 : Int32) (s0 : Wd), G p l e (headSpec wsX8_findsTriangle rm_X8_findsTriangle).room s m args below meth c 7 0 0 D (wsM cy h) (adM h) Q 117 [(0, .ref (h 0)), (1, .int x1), (2, .int x2), (3, .int x3), (4, .int x4), (5, .int x5), (6, .int x6)] [] s0 (fl_X8_findsTriangle_117 N x1 x2 x3 x4 x5 K n x6 s0) := by
  intro n
  induction n with
  | zero => intros; exact G.no
  | succ n ih =>
    intro x6 s0
    rw [fl_X8_findsTriangle_117]
    refine G.iload E dX8_findsTriangle_117 6 rfl ?_
    refine G.if_lt (tgt := 169) E dX8_findsTriangle_119 (by decide) ?_ ?_
    · refine G.loc [0, 1, 2, 3, 4, 5] rfl ?_
      exact hK s0
    · refine G.iload E dX8_findsTriangle_122 5 rfl ?_
      refine G.iload_n E dX8_findsTriangle_124 2 rfl rfl ?_
      refine G.icmp_eq (tgt := 169) E dX8_findsTriangle_125 (by decide) ?_ ?_
      · refine G.loc [0, 1, 2, 3, 4, 5] rfl ?_
        exact hK s0
      · refine G.iload E dX8_findsTriangle_128 5 rfl ?_
        refine G.iload_n E dX8_findsTriangle_130 3 rfl rfl ?_
        refine G.icmp_eq (tgt := 169) E dX8_findsTriangle_131 (by decide) ?_ ?_
        · refine G.loc [0, 1, 2, 3, 4, 5] rfl ?_
          exact hK s0
        · refine G.aload_n E dX8_findsTriangle_134 0 rfl rfl ?_
          refine G.getR (T := TX8) (N := 21) (C := RX8) (q0 := 0) (i := 20) E dX8_findsTriangle_135 iw_X8_findsTriangle_8 (wsM_at0 _ _ _) rfl (by decide) rfl (List.mem_of_getElem? (i := 3) rfl) ?_
          refine G.iconst (v := 2) E dX8_findsTriangle_138 (by decide) ?_
          refine G.aload_n E dX8_findsTriangle_139 0 rfl rfl ?_
          refine G.iload E dX8_findsTriangle_140 6 rfl ?_
          refine G.iload_n E dX8_findsTriangle_142 3 rfl rfl ?_
          refine G.iload E dX8_findsTriangle_143 5 rfl ?_
          refine G.callVi (n := 3) (T := TX8) (N := 21) (C := RX8) (a := h 0) (q0 := 0) (As := [.int x6, .int x3, .int x5]) E dX8_findsTriangle_145 (fun _ hv => c_X8_joins E.wf hv) gX8_findsTriangle_X8_joins rfl rfl rfl (by decide +kernel) ⟨Nat.le_of_ble_eq_true rfl, Nat.le_of_ble_eq_true rfl⟩ (wsM_at0 _ _ _) rfl rfl (Nat.le_of_ble_eq_true rfl) ⟨Nat.le_of_ble_eq_true rfl, Nat.le_of_ble_eq_true rfl⟩ (fun v9 => ?_)
          refine G.jn (P := fun j => ∀ (v10 : Int32), G p l e (headSpec wsX8_findsTriangle rm_X8_findsTriangle).room s m args below meth c 7 0 0 D (wsM cy h) (adM h) Q 162 [(0, .ref (h 0)), (1, .int x1), (2, .int x2), (3, .int x3), (4, .int x4), (5, .int x5), (6, .int x6)] [.int v10, .int 2, .ref (h 12)] s0 (j v10)) ?_ (fun j162 hj162 => ?_)
          · intro v10
            refine G.iast (q0 := 12) E dX8_findsTriangle_162 (wsM_at12 _ _ _) (fun j => wsM_set12 _ _ _ _ j) (fun s11 => ?_)
            refine G.iinc (v := x6 + (-1)) (lv' := [(6, .int (x6 + (-1))), (0, .ref (h 0)), (1, .int x1), (2, .int x2), (3, .int x3), (4, .int x4), (5, .int x5)]) E dX8_findsTriangle_163 6 rfl rfl (by decide) rfl ?_
            refine G.goto (tgt := 117) E dX8_findsTriangle_166 (by decide) ?_
            refine G.loc [1, 2, 3, 4, 5, 6, 0] rfl ?_
            exact ih (x6 + (-1)) s11
          · refine G.if_eq (tgt := 156) E dX8_findsTriangle_148 (by decide) ?_ ?_
            · refine G.aload_n E dX8_findsTriangle_156 0 rfl rfl ?_
              refine G.getR (T := TX8) (N := 21) (C := RX8) (q0 := 0) (i := 20) E dX8_findsTriangle_157 iw_X8_findsTriangle_8 (wsM_at0 _ _ _) rfl (by decide) rfl (List.mem_of_getElem? (i := 3) rfl) ?_
              refine G.iconst (v := 2) E dX8_findsTriangle_160 (by decide) ?_
              refine G.iald (q0 := 12) E dX8_findsTriangle_161 (wsM_at12 _ _ _) (fun v12 => ?_)
              refine G.loc [0, 1, 2, 3, 4, 5, 6] rfl ?_
              exact hj162 v12
            · refine G.iload E dX8_findsTriangle_151 6 rfl ?_
              refine G.goto (tgt := 162) E dX8_findsTriangle_153 (by decide) ?_
              refine G.loc [0, 1, 2, 3, 4, 5, 6] rfl ?_
              exact hj162 x6
noncomputable def fl_X8_findsTriangle_24 {ρ : Type} (N : Nat) (x1 : Int32) (x2 : Int32) (x3 : Int32) (K : Wd → Option ρ) : Nat → Int32 → Wd → Option ρ
  | 0, _, _ => none
  | n + 1, x4, s0 =>
    if 20 ≤ x4 then (
      K s0)
    else (
      if x2 = x3 then (
        K s0)
      else (
        rI s0 12 3 1 fun v4 =>
        if v4 = (-1) then (
          gI s0 0 5 fun v5 =>
          bP (f_X8_isIn N v5 x4) fun v6 =>
          jn (fun (v7 : Int32) => ((
            aI s0 12 3 2 (-1) fun s8 =>
            fl_X8_findsTriangle_117 N x1 x2 x3 x4 v7 (fun s13 =>
              rI s13 12 3 2 fun v14 =>
              jn (fun (s15 : Wd) => ((
                fl_X8_findsTriangle_24 N x1 x2 x3 K n (x4 + 1) s15) : Option (ρ))) fun j195 =>
              if v14 = (-1) then (
                j195 s13)
              else (
                aI s13 12 3 1 x4 fun s16 =>
                aI s16 11 3 2 v7 fun s17 =>
                j195 s17)) N 19 s8) : Option (ρ))) fun j104 =>
          jn (fun (_u : Unit) => ((
            j104 x2) : Option (ρ))) fun j103 =>
          if v6 = 0 then (
            j103 ())
          else (
            if x4 = x1 then (
              j103 ())
            else (
              rI s0 1 20 x4 fun v18 =>
              jn (fun (_u : Unit) => ((
                bP (f_X8_otherEnd N s0 x4 x2) fun v19 =>
                j104 v19) : Option (ρ))) fun j86 =>
              if v18 = x2 then (
                j86 ())
              else (
                rI s0 2 20 x4 fun v20 =>
                if v20 = x2 then (
                  j86 ())
                else (
                  j103 ())))))
        else (
          K s0)))
set_option maxHeartbeats 4000000 in
set_option maxRecDepth 100000 in
theorem gl_X8_findsTriangle_24 {ρ : Type} {Q : ρ → State → Prop} {N : Nat} {x1 : Int32} {x2 : Int32} {x3 : Int32} {K : Wd → Option ρ} (E : EV p s m args meth c cX8_findsTriangle 7 RX8 wsX8_findsTriangle (some .boolean) D cy (wsM cy h) (adM h)) (hK : ∀ (s' : Wd), G p l e (headSpec wsX8_findsTriangle rm_X8_findsTriangle).room s m args below meth c 7 0 0 D (wsM cy h) (adM h) Q 201 [(0, .ref (h 0)), (1, .int x1), (2, .int x2), (3, .int x3)] [] s' (K s')) :
  ∀ (n : Nat) (x4 : Int32) (s0 : Wd), G p l e (headSpec wsX8_findsTriangle rm_X8_findsTriangle).room s m args below meth c 7 0 0 D (wsM cy h) (adM h) Q 24 [(0, .ref (h 0)), (1, .int x1), (2, .int x2), (3, .int x3), (4, .int x4)] [] s0 (fl_X8_findsTriangle_24 N x1 x2 x3 K n x4 s0) := by
  intro n
  induction n with
  | zero => intros; exact G.no
  | succ n ih =>
    intro x4 s0
    rw [fl_X8_findsTriangle_24]
    refine G.iload E dX8_findsTriangle_24 4 rfl ?_
    refine G.bipush (v := 20) E dX8_findsTriangle_26 (by decide) ?_
    refine G.icmp_ge (tgt := 201) E dX8_findsTriangle_28 (by decide) ?_ ?_
    · refine G.loc [0, 1, 2, 3] rfl ?_
      exact hK s0
    · refine G.iload_n E dX8_findsTriangle_31 2 rfl rfl ?_
      refine G.iload_n E dX8_findsTriangle_32 3 rfl rfl ?_
      refine G.icmp_eq (tgt := 201) E dX8_findsTriangle_33 (by decide) ?_ ?_
      · refine G.loc [0, 1, 2, 3] rfl ?_
        exact hK s0
      · refine G.aload_n E dX8_findsTriangle_36 0 rfl rfl ?_
        refine G.getR (T := TX8) (N := 21) (C := RX8) (q0 := 0) (i := 20) E dX8_findsTriangle_37 iw_X8_findsTriangle_8 (wsM_at0 _ _ _) rfl (by decide) rfl (List.mem_of_getElem? (i := 3) rfl) ?_
        refine G.iconst (v := 1) E dX8_findsTriangle_40 (by decide) ?_
        refine G.iald (q0 := 12) E dX8_findsTriangle_41 (wsM_at12 _ _ _) (fun v4 => ?_)
        refine G.iconst (v := (-1)) E dX8_findsTriangle_42 (by decide) ?_
        refine G.icmp_ne (tgt := 201) E dX8_findsTriangle_43 (by decide) ?_ ?_
        · refine G.aload_n E dX8_findsTriangle_46 0 rfl rfl ?_
          refine G.getI (T := TX8) (N := 21) (C := RX8) (q0 := 0) (i := 5) E dX8_findsTriangle_47 iw_X8_findsTriangle_8 (wsM_at0 _ _ _) rfl (by decide) rfl (List.mem_of_getElem? (i := 4) rfl) (fun v5 => ?_)
          refine G.iload E dX8_findsTriangle_50 4 rfl ?_
          refine G.callSi (n := 2) (As := [.int v5, .int x4]) E dX8_findsTriangle_52 (fun _ hv => c_X8_isIn E.wf hv) gX8_findsTriangle_X8_isIn rfl rfl rfl (by decide +kernel) ⟨Nat.le_of_ble_eq_true rfl, Nat.le_of_ble_eq_true rfl⟩ rfl (Nat.le_of_ble_eq_true rfl) ⟨Nat.le_of_ble_eq_true rfl, Nat.le_of_ble_eq_true rfl⟩ (fun v6 => ?_)
          refine G.jn (P := fun j => ∀ (v7 : Int32), G p l e (headSpec wsX8_findsTriangle rm_X8_findsTriangle).room s m args below meth c 7 0 0 D (wsM cy h) (adM h) Q 104 [(0, .ref (h 0)), (1, .int x1), (2, .int x2), (3, .int x3), (4, .int x4)] [.int v7] s0 (j v7)) ?_ (fun j104 hj104 => ?_)
          · intro v7
            refine G.istore (lv' := [(5, .int v7), (0, .ref (h 0)), (1, .int x1), (2, .int x2), (3, .int x3), (4, .int x4)]) E dX8_findsTriangle_104 (by decide) rfl ?_
            refine G.aload_n E dX8_findsTriangle_106 1 rfl rfl ?_
            refine G.getR (T := TX8) (N := 21) (C := RX8) (q0 := 0) (i := 20) E dX8_findsTriangle_107 iw_X8_findsTriangle_8 (wsM_at0 _ _ _) rfl (by decide) rfl (List.mem_of_getElem? (i := 3) rfl) ?_
            refine G.iconst (v := 2) E dX8_findsTriangle_110 (by decide) ?_
            refine G.iconst (v := (-1)) E dX8_findsTriangle_111 (by decide) ?_
            refine G.iast (q0 := 12) E dX8_findsTriangle_112 (wsM_at12 _ _ _) (fun j => wsM_set12 _ _ _ _ j) (fun s8 => ?_)
            refine G.bipush (v := 19) E dX8_findsTriangle_113 (by decide) ?_
            refine G.istore (lv' := [(6, .int 19), (5, .int v7), (0, .ref (h 0)), (1, .int x1), (2, .int x2), (3, .int x3), (4, .int x4)]) E dX8_findsTriangle_115 (by decide) rfl ?_
            refine G.loc [2, 3, 4, 5, 6, 1, 0] rfl ?_
            refine gl_X8_findsTriangle_117 E (fun s13 => ?_) N _ _
            refine G.aload_n E dX8_findsTriangle_169 0 rfl rfl ?_
            refine G.getR (T := TX8) (N := 21) (C := RX8) (q0 := 0) (i := 20) E dX8_findsTriangle_170 iw_X8_findsTriangle_8 (wsM_at0 _ _ _) rfl (by decide) rfl (List.mem_of_getElem? (i := 3) rfl) ?_
            refine G.iconst (v := 2) E dX8_findsTriangle_173 (by decide) ?_
            refine G.iald (q0 := 12) E dX8_findsTriangle_174 (wsM_at12 _ _ _) (fun v14 => ?_)
            refine G.iconst (v := (-1)) E dX8_findsTriangle_175 (by decide) ?_
            refine G.jn (P := fun j => ∀ (s15 : Wd), G p l e (headSpec wsX8_findsTriangle rm_X8_findsTriangle).room s m args below meth c 7 0 0 D (wsM cy h) (adM h) Q 195 [(0, .ref (h 0)), (1, .int x1), (2, .int x2), (3, .int x3), (4, .int x4)] [] s15 (j s15)) ?_ (fun j195 hj195 => ?_)
            · intro s15
              refine G.iinc (v := x4 + 1) (lv' := [(4, .int (x4 + 1)), (0, .ref (h 0)), (1, .int x1), (2, .int x2), (3, .int x3)]) E dX8_findsTriangle_195 4 rfl rfl (by decide) rfl ?_
              refine G.goto (tgt := 24) E dX8_findsTriangle_198 (by decide) ?_
              refine G.loc [1, 2, 3, 4, 0] rfl ?_
              exact ih (x4 + 1) s15
            · refine G.icmp_eq (tgt := 195) E dX8_findsTriangle_176 (by decide) ?_ ?_
              · refine G.loc [0, 1, 2, 3, 4] rfl ?_
                exact hj195 s13
              · refine G.aload_n E dX8_findsTriangle_179 0 rfl rfl ?_
                refine G.getR (T := TX8) (N := 21) (C := RX8) (q0 := 0) (i := 20) E dX8_findsTriangle_180 iw_X8_findsTriangle_8 (wsM_at0 _ _ _) rfl (by decide) rfl (List.mem_of_getElem? (i := 3) rfl) ?_
                refine G.iconst (v := 1) E dX8_findsTriangle_183 (by decide) ?_
                refine G.iload E dX8_findsTriangle_184 4 rfl ?_
                refine G.iast (q0 := 12) E dX8_findsTriangle_186 (wsM_at12 _ _ _) (fun j => wsM_set12 _ _ _ _ j) (fun s16 => ?_)
                refine G.aload_n E dX8_findsTriangle_187 0 rfl rfl ?_
                refine G.getR (T := TX8) (N := 21) (C := RX8) (q0 := 0) (i := 19) E dX8_findsTriangle_188 iw_X8_findsTriangle_8 (wsM_at0 _ _ _) rfl (by decide) rfl (List.mem_of_getElem? (i := 5) rfl) ?_
                refine G.iconst (v := 2) E dX8_findsTriangle_191 (by decide) ?_
                refine G.iload E dX8_findsTriangle_192 5 rfl ?_
                refine G.iast (q0 := 11) E dX8_findsTriangle_194 (wsM_at11 _ _ _) (fun j => wsM_set11 _ _ _ _ j) (fun s17 => ?_)
                refine G.loc [0, 1, 2, 3, 4] rfl ?_
                exact hj195 s17
          · refine G.jn (P := fun j => ∀ (_u : Unit), G p l e (headSpec wsX8_findsTriangle rm_X8_findsTriangle).room s m args below meth c 7 0 0 D (wsM cy h) (adM h) Q 103 [(0, .ref (h 0)), (1, .int x1), (2, .int x2), (3, .int x3), (4, .int x4)] [] s0 (j _u)) ?_ (fun j103 hj103 => ?_)
            · intro _u
              refine G.iload_n E dX8_findsTriangle_103 2 rfl rfl ?_
              refine G.loc [0, 1, 2, 3, 4] rfl ?_
              exact hj104 x2
            · refine G.if_eq (tgt := 103) E dX8_findsTriangle_55 (by decide) ?_ ?_
              · refine G.loc [0, 1, 2, 3, 4] rfl ?_
                exact hj103 ()
              · refine G.iload E dX8_findsTriangle_58 4 rfl ?_
                refine G.iload_n E dX8_findsTriangle_60 1 rfl rfl ?_
                refine G.icmp_eq (tgt := 103) E dX8_findsTriangle_61 (by decide) ?_ ?_
                · refine G.loc [0, 1, 2, 3, 4] rfl ?_
                  exact hj103 ()
                · refine G.aload_n E dX8_findsTriangle_64 0 rfl rfl ?_
                  refine G.getR (T := TX8) (N := 21) (C := RX8) (q0 := 0) (i := 6) E dX8_findsTriangle_65 iw_X8_findsTriangle_8 (wsM_at0 _ _ _) rfl (by decide) rfl (List.mem_of_getElem? (i := 1) rfl) ?_
                  refine G.iload E dX8_findsTriangle_68 4 rfl ?_
                  refine G.iald (q0 := 1) E dX8_findsTriangle_70 (wsM_at1 _ _ _) (fun v18 => ?_)
                  refine G.iload_n E dX8_findsTriangle_71 2 rfl rfl ?_
                  refine G.jn (P := fun j => ∀ (_u : Unit), G p l e (headSpec wsX8_findsTriangle rm_X8_findsTriangle).room s m args below meth c 7 0 0 D (wsM cy h) (adM h) Q 86 [(0, .ref (h 0)), (1, .int x1), (2, .int x2), (3, .int x3), (4, .int x4)] [] s0 (j _u)) ?_ (fun j86 hj86 => ?_)
                  · intro _u
                    refine G.iload E dX8_findsTriangle_86 4 rfl ?_
                    refine G.iload_n E dX8_findsTriangle_88 2 rfl rfl ?_
                    refine G.aload_n E dX8_findsTriangle_89 0 rfl rfl ?_
                    refine G.getR (T := TX8) (N := 21) (C := RX8) (q0 := 0) (i := 6) E dX8_findsTriangle_90 iw_X8_findsTriangle_8 (wsM_at0 _ _ _) rfl (by decide) rfl (List.mem_of_getElem? (i := 1) rfl) ?_
                    refine G.aload_n E dX8_findsTriangle_93 0 rfl rfl ?_
                    refine G.getR (T := TX8) (N := 21) (C := RX8) (q0 := 0) (i := 7) E dX8_findsTriangle_94 iw_X8_findsTriangle_8 (wsM_at0 _ _ _) rfl (by decide) rfl (List.mem_of_getElem? (i := 2) rfl) ?_
                    refine G.callSi (n := 4) (As := [.int x4, .int x2, .ref (h 1), .ref (h 2)]) E dX8_findsTriangle_97 (fun _ hv => c_X8_otherEnd E.wf hv) gX8_findsTriangle_X8_otherEnd rfl rfl rfl (by decide +kernel) ⟨Nat.le_of_ble_eq_true rfl, Nat.le_of_ble_eq_true rfl⟩ rfl (Nat.le_of_ble_eq_true rfl) ⟨Nat.le_of_ble_eq_true rfl, Nat.le_of_ble_eq_true rfl⟩ (fun v19 => ?_)
                    refine G.goto (tgt := 104) E dX8_findsTriangle_100 (by decide) ?_
                    refine G.loc [0, 1, 2, 3, 4] rfl ?_
                    exact hj104 v19
                  · refine G.icmp_eq (tgt := 86) E dX8_findsTriangle_72 (by decide) ?_ ?_
                    · refine G.loc [0, 1, 2, 3, 4] rfl ?_
                      exact hj86 ()
                    · refine G.aload_n E dX8_findsTriangle_75 0 rfl rfl ?_
                      refine G.getR (T := TX8) (N := 21) (C := RX8) (q0 := 0) (i := 7) E dX8_findsTriangle_76 iw_X8_findsTriangle_8 (wsM_at0 _ _ _) rfl (by decide) rfl (List.mem_of_getElem? (i := 2) rfl) ?_
                      refine G.iload E dX8_findsTriangle_79 4 rfl ?_
                      refine G.iald (q0 := 2) E dX8_findsTriangle_81 (wsM_at2 _ _ _) (fun v20 => ?_)
                      refine G.iload_n E dX8_findsTriangle_82 2 rfl rfl ?_
                      refine G.icmp_ne (tgt := 103) E dX8_findsTriangle_83 (by decide) ?_ ?_
                      · refine G.loc [0, 1, 2, 3, 4] rfl ?_
                        exact hj86 ()
                      · refine G.loc [0, 1, 2, 3, 4] rfl ?_
                        exact hj103 ()
        · refine G.loc [0, 1, 2, 3] rfl ?_
          exact hK s0
noncomputable def f_X8_findsTriangle (N : Nat) (σ : Wd) (a0 : Int32) : Option (Int32 × Wd) :=
  rI σ 1 20 a0 fun v1 =>
  rI σ 2 20 a0 fun v2 =>
  aI σ 12 3 1 (-1) fun s3 =>
  fl_X8_findsTriangle_24 N a0 v1 v2 (fun s21 =>
    aI s21 12 3 0 a0 fun s22 =>
    aI s22 11 3 0 v1 fun s23 =>
    aI s23 11 3 1 v2 fun s24 =>
    rI s24 12 3 1 fun v25 =>
    if v25 = (-1) then (
      some (0, s24))
    else (
      some (1, s24))) N 0 s3
set_option maxHeartbeats 4000000 in
set_option maxRecDepth 100000 in
theorem c_X8_findsTriangle {l : Launch} {D : va_G} {cy : Nat → ClassId} {h : Nat → Nat} {N : Nat} {σ : Wd} {a0 : Int32} {r : Int32} {σ1 : Wd} (hW : WF (wsM cy h) (adM h)) (hr : f_X8_findsTriangle N σ a0 = some (r, σ1)) : Con l D cy (wsM cy h) (adM h) yX8_findsTriangle wsX8_findsTriangle rm_X8_findsTriangle 0 0 [.ref (h 0), .int a0] (some (.int r)) σ σ1 := by
  refine Con.of (ρ := Int32 × Wd) (lv0 := [(0, .ref (h 0)), (1, .int a0)]) (σ := σ) (fun r : Int32 × Wd => some (.int r.1)) (fun r => r.2) (by decide) rfl rfl (Nat.le_of_ble_eq_true rfl) rfl hW hr (fun p e s m args below meth c E => ?_)
  unfold f_X8_findsTriangle
  refine G.aload_n E dX8_findsTriangle_0 0 rfl rfl ?_
  refine G.getR (T := TX8) (N := 21) (C := RX8) (q0 := 0) (i := 6) E dX8_findsTriangle_1 iw_X8_findsTriangle_8 (wsM_at0 _ _ _) rfl (by decide) rfl (List.mem_of_getElem? (i := 1) rfl) ?_
  refine G.iload_n E dX8_findsTriangle_4 1 rfl rfl ?_
  refine G.iald (q0 := 1) E dX8_findsTriangle_5 (wsM_at1 _ _ _) (fun v1 => ?_)
  refine G.istore_n (lv' := [(2, .int v1), (0, .ref (h 0)), (1, .int a0)]) E dX8_findsTriangle_6 rfl (by decide) rfl ?_
  refine G.aload_n E dX8_findsTriangle_7 1 rfl rfl ?_
  refine G.getR (T := TX8) (N := 21) (C := RX8) (q0 := 0) (i := 7) E dX8_findsTriangle_8 iw_X8_findsTriangle_8 (wsM_at0 _ _ _) rfl (by decide) rfl (List.mem_of_getElem? (i := 2) rfl) ?_
  refine G.iload_n E dX8_findsTriangle_11 2 rfl rfl ?_
  refine G.iald (q0 := 2) E dX8_findsTriangle_12 (wsM_at2 _ _ _) (fun v2 => ?_)
  refine G.istore_n (lv' := [(3, .int v2), (2, .int v1), (0, .ref (h 0)), (1, .int a0)]) E dX8_findsTriangle_13 rfl (by decide) rfl ?_
  refine G.aload_n E dX8_findsTriangle_14 2 rfl rfl ?_
  refine G.getR (T := TX8) (N := 21) (C := RX8) (q0 := 0) (i := 20) E dX8_findsTriangle_15 iw_X8_findsTriangle_8 (wsM_at0 _ _ _) rfl (by decide) rfl (List.mem_of_getElem? (i := 3) rfl) ?_
  refine G.iconst (v := 1) E dX8_findsTriangle_18 (by decide) ?_
  refine G.iconst (v := (-1)) E dX8_findsTriangle_19 (by decide) ?_
  refine G.iast (q0 := 12) E dX8_findsTriangle_20 (wsM_at12 _ _ _) (fun j => wsM_set12 _ _ _ _ j) (fun s3 => ?_)
  refine G.iconst (v := 0) E dX8_findsTriangle_21 (by decide) ?_
  refine G.istore (lv' := [(4, .int 0), (3, .int v2), (2, .int v1), (0, .ref (h 0)), (1, .int a0)]) E dX8_findsTriangle_22 (by decide) rfl ?_
  refine G.loc [3, 4, 2, 1, 0] rfl ?_
  refine gl_X8_findsTriangle_24 E (fun s21 => ?_) N _ _
  refine G.aload_n E dX8_findsTriangle_201 0 rfl rfl ?_
  refine G.getR (T := TX8) (N := 21) (C := RX8) (q0 := 0) (i := 20) E dX8_findsTriangle_202 iw_X8_findsTriangle_8 (wsM_at0 _ _ _) rfl (by decide) rfl (List.mem_of_getElem? (i := 3) rfl) ?_
  refine G.iconst (v := 0) E dX8_findsTriangle_205 (by decide) ?_
  refine G.iload_n E dX8_findsTriangle_206 1 rfl rfl ?_
  refine G.iast (q0 := 12) E dX8_findsTriangle_207 (wsM_at12 _ _ _) (fun j => wsM_set12 _ _ _ _ j) (fun s22 => ?_)
  refine G.aload_n E dX8_findsTriangle_208 0 rfl rfl ?_
  refine G.getR (T := TX8) (N := 21) (C := RX8) (q0 := 0) (i := 19) E dX8_findsTriangle_209 iw_X8_findsTriangle_8 (wsM_at0 _ _ _) rfl (by decide) rfl (List.mem_of_getElem? (i := 5) rfl) ?_
  refine G.iconst (v := 0) E dX8_findsTriangle_212 (by decide) ?_
  refine G.iload_n E dX8_findsTriangle_213 2 rfl rfl ?_
  refine G.iast (q0 := 11) E dX8_findsTriangle_214 (wsM_at11 _ _ _) (fun j => wsM_set11 _ _ _ _ j) (fun s23 => ?_)
  refine G.aload_n E dX8_findsTriangle_215 0 rfl rfl ?_
  refine G.getR (T := TX8) (N := 21) (C := RX8) (q0 := 0) (i := 19) E dX8_findsTriangle_216 iw_X8_findsTriangle_8 (wsM_at0 _ _ _) rfl (by decide) rfl (List.mem_of_getElem? (i := 5) rfl) ?_
  refine G.iconst (v := 1) E dX8_findsTriangle_219 (by decide) ?_
  refine G.iload_n E dX8_findsTriangle_220 3 rfl rfl ?_
  refine G.iast (q0 := 11) E dX8_findsTriangle_221 (wsM_at11 _ _ _) (fun j => wsM_set11 _ _ _ _ j) (fun s24 => ?_)
  refine G.aload_n E dX8_findsTriangle_222 0 rfl rfl ?_
  refine G.getR (T := TX8) (N := 21) (C := RX8) (q0 := 0) (i := 20) E dX8_findsTriangle_223 iw_X8_findsTriangle_8 (wsM_at0 _ _ _) rfl (by decide) rfl (List.mem_of_getElem? (i := 3) rfl) ?_
  refine G.iconst (v := 1) E dX8_findsTriangle_226 (by decide) ?_
  refine G.iald (q0 := 12) E dX8_findsTriangle_227 (wsM_at12 _ _ _) (fun v25 => ?_)
  refine G.iconst (v := (-1)) E dX8_findsTriangle_228 (by decide) ?_
  refine G.icmp_eq (tgt := 236) E dX8_findsTriangle_229 (by decide) ?_ ?_
  · refine G.iconst (v := 0) E dX8_findsTriangle_236 (by decide) ?_
    exact G.zretc E dX8_findsTriangle_237 rfl rfl rfl
  · refine G.iconst (v := 1) E dX8_findsTriangle_232 (by decide) ?_
    refine G.goto (tgt := 237) E dX8_findsTriangle_233 (by decide) ?_
    exact G.zretc E dX8_findsTriangle_237 rfl rfl rfl
end TR
