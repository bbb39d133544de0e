section TR
variable {p : Program} {l : Launch} {e : Env} {s : State} {m : MethodId} {args : Array Value} {below : List Frame} {meth : Method} {c : Code} {D : va_G} {cy : Nat → ClassId} {h : Nat → Nat}

set_option maxHeartbeats 4000000 in
set_option maxRecDepth 100000 in
theorem iw_X8_trees_8 : ∀ w ∈ u_ws RX8 TX8 21, w ∈ wsX8_trees := fun _ h => List.mem_cons_of_mem _ (List.mem_append_right _ h)
abbrev rm_X8_trees : Room := { frames := 5, cells := 0, slots := 0, locals := 122 }
noncomputable def f_X8_trees (N : Nat) (σ : Wd) : Option (Int64 × Wd) :=
  wI σ 0 0 0 fun s1 =>
  bS (f_X8_counts N s1 0 0 0 0) fun v2 s3 =>
  some (v2, s3)
set_option maxHeartbeats 4000000 in
set_option maxRecDepth 100000 in
theorem c_X8_trees {l : Launch} {D : va_G} {cy : Nat → ClassId} {h : Nat → Nat} {N : Nat} {σ : Wd} {r : Int64} {σ1 : Wd} (hW : WF (wsM cy h) (adM h)) (hr : f_X8_trees N σ = some (r, σ1)) : Con l D cy (wsM cy h) (adM h) yX8_trees wsX8_trees rm_X8_trees 0 0 [.ref (h 0)] (some (.long r)) σ σ1 := by
  refine Con.of (ρ := Int64 × Wd) (lv0 := [(0, .ref (h 0))]) (σ := σ) (fun r : Int64 × Wd => some (.long r.1)) (fun r => r.2) (by decide) rfl rfl (Nat.le_of_ble_eq_true rfl) rfl hW hr (fun p e s m args below meth c E => ?_)
  unfold f_X8_trees
  refine G.aload_n E dX8_trees_0 0 rfl rfl ?_
  refine G.iconst (v := 0) E dX8_trees_1 (by decide) ?_
  refine G.putI (T := TX8) (N := 21) (C := RX8) (q0 := 0) (i := 0) (ty := .int) E dX8_trees_2 iw_X8_trees_8 tyX8 tyX8_ok nmX8 (wsM_at0 _ _ _) rfl (by decide) (List.mem_of_getElem? (i := 1) rfl) rfl (by decide +kernel) rfl rfl (Nat.le_of_ble_eq_true rfl) (wsM_set0_0 _ _ _ _) (fun s1 => ?_)
  refine G.aload_n E dX8_trees_5 0 rfl rfl ?_
  refine G.iconst (v := 0) E dX8_trees_6 (by decide) ?_
  refine G.iconst (v := 0) E dX8_trees_7 (by decide) ?_
  refine G.iconst (v := 0) E dX8_trees_8 (by decide) ?_
  refine G.iconst (v := 0) E dX8_trees_9 (by decide) ?_
  refine G.callVls (n := 4) (T := TX8) (N := 21) (C := RX8) (a := h 0) (q0 := 0) (As := [.int 0, .int 0, .int 0, .int 0]) E dX8_trees_10 (fun _ _ hv => c_X8_counts E.wf hv) gX8_trees_X8_counts rfl rfl rfl (by decide +kernel) ⟨Nat.le_of_ble_eq_true rfl, Nat.le_of_ble_eq_true rfl⟩ (wsM_at0 _ _ _) rfl rfl (Nat.le_of_ble_eq_true rfl) ⟨Nat.le_of_ble_eq_true rfl, Nat.le_of_ble_eq_true rfl⟩ (fun v2 s3 => ?_)
  exact G.lret E dX8_trees_13 rfl rfl
abbrev rm_X8_treesAnew : Room := { frames := 6, cells := 0, slots := 0, locals := 142 }
noncomputable def f_X8_treesAnew (N : Nat) (σ : Wd) : Option (Int64 × Wd) :=
  bS (f_X8_trees N σ) fun v1 s2 =>
  some (v1, s2)
set_option maxHeartbeats 4000000 in
set_option maxRecDepth 100000 in
theorem c_X8_treesAnew {l : Launch} {D : va_G} {cy : Nat → ClassId} {h : Nat → Nat} {N : Nat} {σ : Wd} {r : Int64} {σ1 : Wd} (hW : WF (wsM cy h) (adM h)) (hr : f_X8_treesAnew N σ = some (r, σ1)) : Con l D cy (wsM cy h) (adM h) yX8_treesAnew wsX8_treesAnew rm_X8_treesAnew 0 0 [.ref (h 0)] (some (.long r)) σ σ1 := by
  refine Con.of (ρ := Int64 × Wd) (lv0 := [(0, .ref (h 0))]) (σ := σ) (fun r : Int64 × Wd => some (.long r.1)) (fun r => r.2) (by decide) rfl rfl (Nat.le_of_ble_eq_true rfl) rfl hW hr (fun p e s m args below meth c E => ?_)
  unfold f_X8_treesAnew
  refine G.aload_n E dX8_treesAnew_0 0 rfl rfl ?_
  refine G.callVls (n := 0) (T := TX8) (N := 21) (C := RX8) (a := h 0) (q0 := 0) (As := []) E dX8_treesAnew_1 (fun _ _ hv => c_X8_trees E.wf hv) gX8_treesAnew_X8_trees rfl rfl rfl (by decide +kernel) ⟨Nat.le_of_ble_eq_true rfl, Nat.le_of_ble_eq_true rfl⟩ (wsM_at0 _ _ _) rfl rfl (Nat.le_of_ble_eq_true rfl) ⟨Nat.le_of_ble_eq_true rfl, Nat.le_of_ble_eq_true rfl⟩ (fun v1 s2 => ?_)
  exact G.lret E dX8_treesAnew_4 rfl rfl
set_option maxHeartbeats 4000000 in
set_option maxRecDepth 100000 in
theorem iw_X8_undo_8 : ∀ w ∈ u_ws RX8 TX8 21, w ∈ wsX8_undo := fun _ h => List.mem_cons_of_mem _ (List.mem_append_right _ h)
abbrev rm_X8_undo : Room := { frames := 0, cells := 0, slots := 0, locals := 0 }
noncomputable def fl_X8_undo_103 {ρ : Type} (N : Nat) (x1 : Int32) (K : Wd → Option ρ) : Nat → Int32 → Wd → Option ρ
  | 0, _, _ => none
  | n + 1, x2, s0 =>
    if 20 ≤ x2 then (
      K s0)
    else (
      rI s0 5 1500 ((x1 + 5) + x2) fun v19 =>
      aI s0 3 20 x2 v19 fun s20 =>
      fl_X8_undo_103 N x1 K n (x2 + 1) s20)
set_option maxHeartbeats 4000000 in
set_option maxRecDepth 100000 in
theorem gl_X8_undo_103 {ρ : Type} {Q : ρ → State → Prop} {N : Nat} {x1 : Int32} {K : Wd → Option ρ} (E : EV p s m args meth c cX8_undo 3 RX8 wsX8_undo (some .int) D cy (wsM cy h) (adM h)) (hK : ∀ (s' : Wd), G p l e (headSpec wsX8_undo rm_X8_undo).room s m args below meth c 3 0 0 D (wsM cy h) (adM h) Q 131 [(0, .ref (h 0))] [] s' (K s')) :
  ∀ (n : Nat) (x2 : Int32) (s0 : Wd), G p l e (headSpec wsX8_undo rm_X8_undo).room s m args below meth c 3 0 0 D (wsM cy h) (adM h) Q 103 [(0, .ref (h 0)), (1, .int x1), (2, .int x2)] [] s0 (fl_X8_undo_103 N x1 K n x2 s0) := by
  intro n
  induction n with
  | zero => intros; exact G.no
  | succ n ih =>
    intro x2 s0
    rw [fl_X8_undo_103]
    refine G.iload_n E dX8_undo_103 2 rfl rfl ?_
    refine G.bipush (v := 20) E dX8_undo_104 (by decide) ?_
    refine G.icmp_ge (tgt := 131) E dX8_undo_106 (by decide) ?_ ?_
    · refine G.loc [0] rfl ?_
      exact hK s0
    · refine G.aload_n E dX8_undo_109 0 rfl rfl ?_
      refine G.getR (T := TX8) (N := 21) (C := RX8) (q0 := 0) (i := 8) E dX8_undo_110 iw_X8_undo_8 (wsM_at0 _ _ _) rfl (by decide) rfl (List.mem_of_getElem? (i := 9) rfl) ?_
      refine G.iload_n E dX8_undo_113 2 rfl rfl ?_
      refine G.aload_n E dX8_undo_114 0 rfl rfl ?_
      refine G.getR (T := TX8) (N := 21) (C := RX8) (q0 := 0) (i := 11) E dX8_undo_115 iw_X8_undo_8 (wsM_at0 _ _ _) rfl (by decide) rfl (List.mem_of_getElem? (i := 3) rfl) ?_
      refine G.iload_n E dX8_undo_118 1 rfl rfl ?_
      refine G.iconst (v := 5) E dX8_undo_119 (by decide) ?_
      refine G.iadd E dX8_undo_120 ?_
      refine G.iload_n E dX8_undo_121 2 rfl rfl ?_
      refine G.iadd E dX8_undo_122 ?_
      refine G.iald (q0 := 5) E dX8_undo_123 (wsM_at5 _ _ _) (fun v19 => ?_)
      refine G.iast (q0 := 3) E dX8_undo_124 (wsM_at3 _ _ _) (fun j => wsM_set3 _ _ _ _ j) (fun s20 => ?_)
      refine G.iinc (v := x2 + 1) (lv' := [(2, .int (x2 + 1)), (0, .ref (h 0)), (1, .int x1)]) E dX8_undo_125 2 rfl rfl (by decide) rfl ?_
      refine G.goto (tgt := 103) E dX8_undo_128 (by decide) ?_
      refine G.loc [1, 2, 0] rfl ?_
      exact ih (x2 + 1) s20
noncomputable def f_X8_undo (N : Nat) (σ : Wd) : Option (Int32 × Wd) :=
  gI σ 0 10 fun v1 =>
  jn (fun (v2 : Int32) => ((
    wI σ 0 0 v2 fun s3 =>
    gI s3 0 0 fun v4 =>
    if v4 ≤ 0 then (
      gI s3 0 10 fun v5 =>
      wI s3 0 10 (v5 - 1) fun s6 =>
      gI s6 0 10 fun v7 =>
      lI (25 * v7) fun v8 =>
      rI s6 5 1500 v8 fun v9 =>
      wI s6 0 2 v9 fun s10 =>
      rI s10 5 1500 (v8 + 1) fun v11 =>
      wI s10 0 3 v11 fun s12 =>
      rI s12 5 1500 (v8 + 2) fun v13 =>
      wI s12 0 1 v13 fun s14 =>
      rI s14 5 1500 (v8 + 3) fun v15 =>
      wI s14 0 5 v15 fun s16 =>
      rI s16 5 1500 (v8 + 4) fun v17 =>
      wI s16 0 4 v17 fun s18 =>
      fl_X8_undo_103 N v8 (fun s21 =>
        gI s21 0 10 fun v22 =>
        some (v22, s21)) N 0 s18)
    else (
      some (0, s3))) : Option (Int32 × Wd))) fun j13 =>
  if v1 = 0 then (
    j13 1)
  else (
    j13 0)
set_option maxHeartbeats 4000000 in
set_option maxRecDepth 100000 in
theorem c_X8_undo {l : Launch} {D : va_G} {cy : Nat → ClassId} {h : Nat → Nat} {N : Nat} {σ : Wd} {r : Int32} {σ1 : Wd} (hW : WF (wsM cy h) (adM h)) (hr : f_X8_undo N σ = some (r, σ1)) : Con l D cy (wsM cy h) (adM h) yX8_undo wsX8_undo rm_X8_undo 0 0 [.ref (h 0)] (some (.int r)) σ σ1 := by
  refine Con.of (ρ := Int32 × Wd) (lv0 := [(0, .ref (h 0))]) (σ := σ) (fun r : Int32 × Wd => some (.int r.1)) (fun r => r.2) (by decide) rfl rfl (Nat.le_of_ble_eq_true rfl) rfl hW hr (fun p e s m args below meth c E => ?_)
  unfold f_X8_undo
  refine G.aload_n E dX8_undo_0 0 rfl rfl ?_
  refine G.aload_n E dX8_undo_1 0 rfl rfl ?_
  refine G.getI (T := TX8) (N := 21) (C := RX8) (q0 := 0) (i := 10) E dX8_undo_2 iw_X8_undo_8 (wsM_at0 _ _ _) rfl (by decide) rfl (List.mem_of_getElem? (i := 1) rfl) (fun v1 => ?_)
  refine G.jn (P := fun j => ∀ (v2 : Int32), G p l e (headSpec wsX8_undo rm_X8_undo).room s m args below meth c 3 0 0 D (wsM cy h) (adM h) (QM D (wsM cy h) (adM h) below args s 0 0 (fun r : Int32 × Wd => some (.int r.1)) (fun r => r.2)) 13 [(0, .ref (h 0))] [.int v2, .ref (h 0)] σ (j v2)) ?_ (fun j13 hj13 => ?_)
  · intro v2
    refine G.putI (T := TX8) (N := 21) (C := RX8) (q0 := 0) (i := 0) (ty := .int) E dX8_undo_13 iw_X8_undo_8 tyX8 tyX8_ok nmX8 (wsM_at0 _ _ _) rfl (by decide) (List.mem_of_getElem? (i := 2) rfl) rfl (by decide +kernel) rfl rfl (Nat.le_of_ble_eq_true rfl) (wsM_set0_0 _ _ _ _) (fun s3 => ?_)
    refine G.aload_n E dX8_undo_16 0 rfl rfl ?_
    refine G.getI (T := TX8) (N := 21) (C := RX8) (q0 := 0) (i := 0) E dX8_undo_17 iw_X8_undo_8 (wsM_at0 _ _ _) rfl (by decide) rfl (List.mem_of_getElem? (i := 2) rfl) (fun v4 => ?_)
    refine G.if_le (tgt := 25) E dX8_undo_20 (by decide) ?_ ?_
    · refine G.aload_n E dX8_undo_25 0 rfl rfl ?_
      refine G.dup E dX8_undo_26 rfl ?_
      refine G.getI (T := TX8) (N := 21) (C := RX8) (q0 := 0) (i := 10) E dX8_undo_27 iw_X8_undo_8 (wsM_at0 _ _ _) rfl (by decide) rfl (List.mem_of_getElem? (i := 1) rfl) (fun v5 => ?_)
      refine G.iconst (v := 1) E dX8_undo_30 (by decide) ?_
      refine G.isub E dX8_undo_31 ?_
      refine G.putI (T := TX8) (N := 21) (C := RX8) (q0 := 0) (i := 10) (ty := .int) E dX8_undo_32 iw_X8_undo_8 tyX8 tyX8_ok nmX8 (wsM_at0 _ _ _) rfl (by decide) (List.mem_of_getElem? (i := 1) rfl) rfl (by decide +kernel) rfl rfl (Nat.le_of_ble_eq_true rfl) (wsM_set0_10 _ _ _ _) (fun s6 => ?_)
      refine G.bipush (v := 25) E dX8_undo_35 (by decide) ?_
      refine G.aload_n E dX8_undo_37 0 rfl rfl ?_
      refine G.getI (T := TX8) (N := 21) (C := RX8) (q0 := 0) (i := 10) E dX8_undo_38 iw_X8_undo_8 (wsM_at0 _ _ _) rfl (by decide) rfl (List.mem_of_getElem? (i := 1) rfl) (fun v7 => ?_)
      refine G.imul E dX8_undo_41 ?_
      refine G.letI (fun v8 => ?_)
      refine G.istore_n (lv' := [(1, .int v8), (0, .ref (h 0))]) E dX8_undo_42 rfl (by decide) rfl ?_
      refine G.aload_n E dX8_undo_43 1 rfl rfl ?_
      refine G.aload_n E dX8_undo_44 1 rfl rfl ?_
      refine G.getR (T := TX8) (N := 21) (C := RX8) (q0 := 0) (i := 11) E dX8_undo_45 iw_X8_undo_8 (wsM_at0 _ _ _) rfl (by decide) rfl (List.mem_of_getElem? (i := 3) rfl) ?_
      refine G.iload_n E dX8_undo_48 0 rfl rfl ?_
      refine G.iald (q0 := 5) E dX8_undo_49 (wsM_at5 _ _ _) (fun v9 => ?_)
      refine G.putI (T := TX8) (N := 21) (C := RX8) (q0 := 0) (i := 2) (ty := .int) E dX8_undo_50 iw_X8_undo_8 tyX8 tyX8_ok nmX8 (wsM_at0 _ _ _) rfl (by decide) (List.mem_of_getElem? (i := 4) rfl) rfl (by decide +kernel) rfl rfl (Nat.le_of_ble_eq_true rfl) (wsM_set0_2 _ _ _ _) (fun s10 => ?_)
      refine G.aload_n E dX8_undo_53 1 rfl rfl ?_
      refine G.aload_n E dX8_undo_54 1 rfl rfl ?_
      refine G.getR (T := TX8) (N := 21) (C := RX8) (q0 := 0) (i := 11) E dX8_undo_55 iw_X8_undo_8 (wsM_at0 _ _ _) rfl (by decide) rfl (List.mem_of_getElem? (i := 3) rfl) ?_
      refine G.iload_n E dX8_undo_58 0 rfl rfl ?_
      refine G.iconst (v := 1) E dX8_undo_59 (by decide) ?_
      refine G.iadd E dX8_undo_60 ?_
      refine G.iald (q0 := 5) E dX8_undo_61 (wsM_at5 _ _ _) (fun v11 => ?_)
      refine G.putI (T := TX8) (N := 21) (C := RX8) (q0 := 0) (i := 3) (ty := .int) E dX8_undo_62 iw_X8_undo_8 tyX8 tyX8_ok nmX8 (wsM_at0 _ _ _) rfl (by decide) (List.mem_of_getElem? (i := 5) rfl) rfl (by decide +kernel) rfl rfl (Nat.le_of_ble_eq_true rfl) (wsM_set0_3 _ _ _ _) (fun s12 => ?_)
      refine G.aload_n E dX8_undo_65 1 rfl rfl ?_
      refine G.aload_n E dX8_undo_66 1 rfl rfl ?_
      refine G.getR (T := TX8) (N := 21) (C := RX8) (q0 := 0) (i := 11) E dX8_undo_67 iw_X8_undo_8 (wsM_at0 _ _ _) rfl (by decide) rfl (List.mem_of_getElem? (i := 3) rfl) ?_
      refine G.iload_n E dX8_undo_70 0 rfl rfl ?_
      refine G.iconst (v := 2) E dX8_undo_71 (by decide) ?_
      refine G.iadd E dX8_undo_72 ?_
      refine G.iald (q0 := 5) E dX8_undo_73 (wsM_at5 _ _ _) (fun v13 => ?_)
      refine G.putI (T := TX8) (N := 21) (C := RX8) (q0 := 0) (i := 1) (ty := .int) E dX8_undo_74 iw_X8_undo_8 tyX8 tyX8_ok nmX8 (wsM_at0 _ _ _) rfl (by decide) (List.mem_of_getElem? (i := 6) rfl) rfl (by decide +kernel) rfl rfl (Nat.le_of_ble_eq_true rfl) (wsM_set0_1 _ _ _ _) (fun s14 => ?_)
      refine G.aload_n E dX8_undo_77 1 rfl rfl ?_
      refine G.aload_n E dX8_undo_78 1 rfl rfl ?_
      refine G.getR (T := TX8) (N := 21) (C := RX8) (q0 := 0) (i := 11) E dX8_undo_79 iw_X8_undo_8 (wsM_at0 _ _ _) rfl (by decide) rfl (List.mem_of_getElem? (i := 3) rfl) ?_
      refine G.iload_n E dX8_undo_82 0 rfl rfl ?_
      refine G.iconst (v := 3) E dX8_undo_83 (by decide) ?_
      refine G.iadd E dX8_undo_84 ?_
      refine G.iald (q0 := 5) E dX8_undo_85 (wsM_at5 _ _ _) (fun v15 => ?_)
      refine G.putI (T := TX8) (N := 21) (C := RX8) (q0 := 0) (i := 5) (ty := .int) E dX8_undo_86 iw_X8_undo_8 tyX8 tyX8_ok nmX8 (wsM_at0 _ _ _) rfl (by decide) (List.mem_of_getElem? (i := 7) rfl) rfl (by decide +kernel) rfl rfl (Nat.le_of_ble_eq_true rfl) (wsM_set0_5 _ _ _ _) (fun s16 => ?_)
      refine G.aload_n E dX8_undo_89 1 rfl rfl ?_
      refine G.aload_n E dX8_undo_90 1 rfl rfl ?_
      refine G.getR (T := TX8) (N := 21) (C := RX8) (q0 := 0) (i := 11) E dX8_undo_91 iw_X8_undo_8 (wsM_at0 _ _ _) rfl (by decide) rfl (List.mem_of_getElem? (i := 3) rfl) ?_
      refine G.iload_n E dX8_undo_94 0 rfl rfl ?_
      refine G.iconst (v := 4) E dX8_undo_95 (by decide) ?_
      refine G.iadd E dX8_undo_96 ?_
      refine G.iald (q0 := 5) E dX8_undo_97 (wsM_at5 _ _ _) (fun v17 => ?_)
      refine G.putI (T := TX8) (N := 21) (C := RX8) (q0 := 0) (i := 4) (ty := .int) E dX8_undo_98 iw_X8_undo_8 tyX8 tyX8_ok nmX8 (wsM_at0 _ _ _) rfl (by decide) (List.mem_of_getElem? (i := 8) rfl) rfl (by decide +kernel) rfl rfl (Nat.le_of_ble_eq_true rfl) (wsM_set0_4 _ _ _ _) (fun s18 => ?_)
      refine G.iconst (v := 0) E dX8_undo_101 (by decide) ?_
      refine G.istore_n (lv' := [(2, .int 0), (1, .int v8), (0, .ref (h 0))]) E dX8_undo_102 rfl (by decide) rfl ?_
      refine G.loc [2, 1, 0] rfl ?_
      refine gl_X8_undo_103 E (fun s21 => ?_) N _ _
      refine G.aload_n E dX8_undo_131 0 rfl rfl ?_
      refine G.getI (T := TX8) (N := 21) (C := RX8) (q0 := 0) (i := 10) E dX8_undo_132 iw_X8_undo_8 (wsM_at0 _ _ _) rfl (by decide) rfl (List.mem_of_getElem? (i := 1) rfl) (fun v22 => ?_)
      exact G.iret E dX8_undo_135 rfl rfl
    · refine G.iconst (v := 0) E dX8_undo_23 (by decide) ?_
      exact G.iret E dX8_undo_24 rfl rfl
  · refine G.if_ne (tgt := 12) E dX8_undo_5 (by decide) ?_ ?_
    · refine G.iconst (v := 1) E dX8_undo_8 (by decide) ?_
      refine G.goto (tgt := 13) E dX8_undo_9 (by decide) ?_
      refine G.loc [0] rfl ?_
      exact hj13 1
    · refine G.iconst (v := 0) E dX8_undo_12 (by decide) ?_
      refine G.loc [0] rfl ?_
      exact hj13 0
set_option maxHeartbeats 4000000 in
set_option maxRecDepth 100000 in
theorem iw_X8_value_8 : ∀ w ∈ u_ws RX8 TX8 21, w ∈ wsX8_value := fun _ h => List.mem_cons_of_mem _ (List.mem_append_right _ h)
abbrev rm_X8_value : Room := { frames := 3, cells := 0, slots := 0, locals := 64 }
noncomputable def f_X8_value (N : Nat) (σ : Wd) (a0 : Int32) (a1 : Int32) : Option (Wd) :=
  bP (f_X8_isEdge N σ a0) fun v1 =>
  jn (fun (v2 : Int32) => ((
    wI σ 0 0 v2 fun s3 =>
    gI s3 0 0 fun v4 =>
    if v4 = 0 then (
      aI s3 4 7 a0 a1 fun s5 =>
      some s5)
    else (
      some s3)) : Option (Wd))) fun j29 =>
  if v1 = 0 then (
    j29 1)
  else (
    bP (f_X8_in N a1 (-99) 99) fun v6 =>
    if v6 = 0 then (
      j29 2)
    else (
      j29 0))
set_option maxHeartbeats 4000000 in
set_option maxRecDepth 100000 in
theorem c_X8_value {l : Launch} {D : va_G} {cy : Nat → ClassId} {h : Nat → Nat} {N : Nat} {σ : Wd} {a0 : Int32} {a1 : Int32} {σ1 : Wd} (hW : WF (wsM cy h) (adM h)) (hr : f_X8_value N σ a0 a1 = some σ1) : Con l D cy (wsM cy h) (adM h) yX8_value wsX8_value rm_X8_value 0 0 [.ref (h 0), .int a0, .int a1] (none) σ σ1 := by
  refine Con.of (ρ := Wd) (lv0 := [(0, .ref (h 0)), (1, .int a0), (2, .int a1)]) (σ := σ) (fun _ : Wd => none) (fun r => r) (by decide) rfl rfl (Nat.le_of_ble_eq_true rfl) rfl hW hr (fun p e s m args below meth c E => ?_)
  unfold f_X8_value
  refine G.aload_n E dX8_value_0 0 rfl rfl ?_
  refine G.aload_n E dX8_value_1 0 rfl rfl ?_
  refine G.iload_n E dX8_value_2 1 rfl rfl ?_
  refine G.callVi (n := 1) (T := TX8) (N := 21) (C := RX8) (a := h 0) (q0 := 0) (As := [.int a0]) E dX8_value_3 (fun _ hv => c_X8_isEdge E.wf hv) gX8_value_X8_isEdge rfl rfl rfl (by decide +kernel) ⟨Nat.le_of_ble_eq_true rfl, Nat.le_of_ble_eq_true rfl⟩ (wsM_at0 _ _ _) rfl rfl (Nat.le_of_ble_eq_true rfl) ⟨Nat.le_of_ble_eq_true rfl, Nat.le_of_ble_eq_true rfl⟩ (fun v1 => ?_)
  refine G.jn (P := fun j => ∀ (v2 : Int32), G p l e (headSpec wsX8_value rm_X8_value).room s m args below meth c 3 0 0 D (wsM cy h) (adM h) (QM D (wsM cy h) (adM h) below args s 0 0 (fun _ : Wd => none) (fun r => r)) 29 [(0, .ref (h 0)), (1, .int a0), (2, .int a1)] [.int v2, .ref (h 0)] σ (j v2)) ?_ (fun j29 hj29 => ?_)
  · intro v2
    refine G.putI (T := TX8) (N := 21) (C := RX8) (q0 := 0) (i := 0) (ty := .int) E dX8_value_29 iw_X8_value_8 tyX8 tyX8_ok nmX8 (wsM_at0 _ _ _) rfl (by decide) (List.mem_of_getElem? (i := 1) rfl) rfl (by decide +kernel) rfl rfl (Nat.le_of_ble_eq_true rfl) (wsM_set0_0 _ _ _ _) (fun s3 => ?_)
    refine G.aload_n E dX8_value_32 0 rfl rfl ?_
    refine G.getI (T := TX8) (N := 21) (C := RX8) (q0 := 0) (i := 0) E dX8_value_33 iw_X8_value_8 (wsM_at0 _ _ _) rfl (by decide) rfl (List.mem_of_getElem? (i := 1) rfl) (fun v4 => ?_)
    refine G.if_ne (tgt := 46) E dX8_value_36 (by decide) ?_ ?_
    · refine G.aload_n E dX8_value_39 0 rfl rfl ?_
      refine G.getR (T := TX8) (N := 21) (C := RX8) (q0 := 0) (i := 9) E dX8_value_40 iw_X8_value_8 (wsM_at0 _ _ _) rfl (by decide) rfl (List.mem_of_getElem? (i := 2) rfl) ?_
      refine G.iload_n E dX8_value_43 1 rfl rfl ?_
      refine G.iload_n E dX8_value_44 2 rfl rfl ?_
      refine G.iast (q0 := 4) E dX8_value_45 (wsM_at4 _ _ _) (fun j => wsM_set4 _ _ _ _ j) (fun s5 => ?_)
      exact G.vret E dX8_value_46 rfl rfl
    · exact G.vret E dX8_value_46 rfl rfl
  · refine G.if_ne (tgt := 13) E dX8_value_6 (by decide) ?_ ?_
    · refine G.iconst (v := 1) E dX8_value_9 (by decide) ?_
      refine G.goto (tgt := 29) E dX8_value_10 (by decide) ?_
      refine G.loc [0, 1, 2] rfl ?_
      exact hj29 1
    · refine G.iload_n E dX8_value_13 2 rfl rfl ?_
      refine G.bipush (v := (-99)) E dX8_value_14 (by decide) ?_
      refine G.bipush (v := 99) E dX8_value_16 (by decide) ?_
      refine G.callSi (n := 3) (As := [.int a1, .int (-99), .int 99]) E dX8_value_18 (fun _ hv => c_X8_in E.wf hv) gX8_value_X8_in rfl rfl rfl (by decide +kernel) ⟨Nat.le_of_ble_eq_true rfl, Nat.le_of_ble_eq_true rfl⟩ rfl (Nat.le_of_ble_eq_true rfl) ⟨Nat.le_of_ble_eq_true rfl, Nat.le_of_ble_eq_true rfl⟩ (fun v6 => ?_)
      refine G.if_eq (tgt := 28) E dX8_value_21 (by decide) ?_ ?_
      · refine G.iconst (v := 2) E dX8_value_28 (by decide) ?_
        refine G.loc [0, 1, 2] rfl ?_
        exact hj29 2
      · refine G.iconst (v := 0) E dX8_value_24 (by decide) ?_
        refine G.goto (tgt := 29) E dX8_value_25 (by decide) ?_
        refine G.loc [0, 1, 2] rfl ?_
        exact hj29 0
set_option maxHeartbeats 4000000 in
set_option maxRecDepth 100000 in
theorem iw_X8_wire_8 : ∀ w ∈ u_ws RX8 TX8 21, w ∈ wsX8_wire := fun _ h => List.mem_cons_of_mem _ (List.mem_append_right _ h)
abbrev rm_X8_wire : Room := { frames := 2, cells := 0, slots := 0, locals := 43 }
noncomputable def f_X8_wire (N : Nat) (σ : Wd) (a0 : Int32) (a1 : Int32) (a2 : Int32) : Option (Int32 × Wd) :=
  bP (f_X8_isNode N σ a0) fun v1 =>
  jn (fun (v2 : Int32) => ((
    wI σ 0 0 v2 fun s3 =>
    gI s3 0 0 fun v4 =>
    if v4 ≤ 0 then (
      wI s3 0 10 0 fun s5 =>
      bS (f_X8_addsWire N s5 a0 a1 a2) fun v6 s7 =>
      some (v6, s7))
    else (
      some (0, s3))) : Option (Int32 × Wd))) fun j61 =>
  jn (fun (_u : Unit) => ((
    j61 1) : Option (Int32 × Wd))) fun j17 =>
  if v1 = 0 then (
    j17 ())
  else (
    bP (f_X8_isNode N σ a1) fun v8 =>
    if v8 = 0 then (
      j17 ())
    else (
      bP (f_X8_in N a2 1 60) fun v9 =>
      if v9 = 0 then (
        j61 2)
      else (
        gI σ 0 4 fun v10 =>
        jn (fun (_u : Unit) => ((
          j61 3) : Option (Int32 × Wd))) fun j56 =>
        if v10 = 20 then (
          j56 ())
        else (
          gI σ 0 5 fun v11 =>
          bP (f_X8_many N v11) fun v12 =>
          if v12 = 12 then (
            j56 ())
          else (
            j61 0)))))
set_option maxHeartbeats 4000000 in
set_option maxRecDepth 100000 in
theorem c_X8_wire {l : Launch} {D : va_G} {cy : Nat → ClassId} {h : Nat → Nat} {N : Nat} {σ : Wd} {a0 : Int32} {a1 : Int32} {a2 : Int32} {r : Int32} {σ1 : Wd} (hW : WF (wsM cy h) (adM h)) (hr : f_X8_wire N σ a0 a1 a2 = some (r, σ1)) : Con l D cy (wsM cy h) (adM h) yX8_wire wsX8_wire rm_X8_wire 0 0 [.ref (h 0), .int a0, .int a1, .int a2] (some (.int r)) σ σ1 := by
  refine Con.of (ρ := Int32 × Wd) (lv0 := [(0, .ref (h 0)), (1, .int a0), (2, .int a1), (3, .int a2)]) (σ := σ) (fun r : Int32 × Wd => some (.int r.1)) (fun r => r.2) (by decide) rfl rfl (Nat.le_of_ble_eq_true rfl) rfl hW hr (fun p e s m args below meth c E => ?_)
  unfold f_X8_wire
  refine G.aload_n E dX8_wire_0 0 rfl rfl ?_
  refine G.aload_n E dX8_wire_1 0 rfl rfl ?_
  refine G.iload_n E dX8_wire_2 1 rfl rfl ?_
  refine G.callVi (n := 1) (T := TX8) (N := 21) (C := RX8) (a := h 0) (q0 := 0) (As := [.int a0]) E dX8_wire_3 (fun _ hv => c_X8_isNode E.wf hv) gX8_wire_X8_isNode rfl rfl rfl (by decide +kernel) ⟨Nat.le_of_ble_eq_true rfl, Nat.le_of_ble_eq_true rfl⟩ (wsM_at0 _ _ _) rfl rfl (Nat.le_of_ble_eq_true rfl) ⟨Nat.le_of_ble_eq_true rfl, Nat.le_of_ble_eq_true rfl⟩ (fun v1 => ?_)
  refine G.jn (P := fun j => ∀ (v2 : Int32), G p l e (headSpec wsX8_wire rm_X8_wire).room s m args below meth c 4 0 0 D (wsM cy h) (adM h) (QM D (wsM cy h) (adM h) below args s 0 0 (fun r : Int32 × Wd => some (.int r.1)) (fun r => r.2)) 61 [(0, .ref (h 0)), (1, .int a0), (2, .int a1), (3, .int a2)] [.int v2, .ref (h 0)] σ (j v2)) ?_ (fun j61 hj61 => ?_)
  · intro v2
    refine G.putI (T := TX8) (N := 21) (C := RX8) (q0 := 0) (i := 0) (ty := .int) E dX8_wire_61 iw_X8_wire_8 tyX8 tyX8_ok nmX8 (wsM_at0 _ _ _) rfl (by decide) (List.mem_of_getElem? (i := 3) rfl) rfl (by decide +kernel) rfl rfl (Nat.le_of_ble_eq_true rfl) (wsM_set0_0 _ _ _ _) (fun s3 => ?_)
    refine G.aload_n E dX8_wire_64 0 rfl rfl ?_
    refine G.getI (T := TX8) (N := 21) (C := RX8) (q0 := 0) (i := 0) E dX8_wire_65 iw_X8_wire_8 (wsM_at0 _ _ _) rfl (by decide) rfl (List.mem_of_getElem? (i := 3) rfl) (fun v4 => ?_)
    refine G.if_le (tgt := 73) E dX8_wire_68 (by decide) ?_ ?_
    · refine G.aload_n E dX8_wire_73 0 rfl rfl ?_
      refine G.iconst (v := 0) E dX8_wire_74 (by decide) ?_
      refine G.putI (T := TX8) (N := 21) (C := RX8) (q0 := 0) (i := 10) (ty := .int) E dX8_wire_75 iw_X8_wire_8 tyX8 tyX8_ok nmX8 (wsM_at0 _ _ _) rfl (by decide) (List.mem_of_getElem? (i := 4) rfl) rfl (by decide +kernel) rfl rfl (Nat.le_of_ble_eq_true rfl) (wsM_set0_10 _ _ _ _) (fun s5 => ?_)
      refine G.aload_n E dX8_wire_78 0 rfl rfl ?_
      refine G.iload_n E dX8_wire_79 1 rfl rfl ?_
      refine G.iload_n E dX8_wire_80 2 rfl rfl ?_
      refine G.iload_n E dX8_wire_81 3 rfl rfl ?_
      refine G.callVis (n := 3) (T := TX8) (N := 21) (C := RX8) (a := h 0) (q0 := 0) (As := [.int a0, .int a1, .int a2]) E dX8_wire_82 (fun _ _ hv => c_X8_addsWire E.wf hv) gX8_wire_X8_addsWire rfl rfl rfl (by decide +kernel) ⟨Nat.le_of_ble_eq_true rfl, Nat.le_of_ble_eq_true rfl⟩ (wsM_at0 _ _ _) rfl rfl (Nat.le_of_ble_eq_true rfl) ⟨Nat.le_of_ble_eq_true rfl, Nat.le_of_ble_eq_true rfl⟩ (fun v6 s7 => ?_)
      exact G.iret E dX8_wire_85 rfl rfl
    · refine G.iconst (v := 0) E dX8_wire_71 (by decide) ?_
      exact G.iret E dX8_wire_72 rfl rfl
  · refine G.jn (P := fun j => ∀ (_u : Unit), G p l e (headSpec wsX8_wire rm_X8_wire).room s m args below meth c 4 0 0 D (wsM cy h) (adM h) (QM D (wsM cy h) (adM h) below args s 0 0 (fun r : Int32 × Wd => some (.int r.1)) (fun r => r.2)) 17 [(0, .ref (h 0)), (1, .int a0), (2, .int a1), (3, .int a2)] [.ref (h 0)] σ (j _u)) ?_ (fun j17 hj17 => ?_)
    · intro _u
      refine G.iconst (v := 1) E dX8_wire_17 (by decide) ?_
      refine G.goto (tgt := 61) E dX8_wire_18 (by decide) ?_
      refine G.loc [0, 1, 2, 3] rfl ?_
      exact hj61 1
    · refine G.if_eq (tgt := 17) E dX8_wire_6 (by decide) ?_ ?_
      · refine G.loc [0, 1, 2, 3] rfl ?_
        exact hj17 ()
      · refine G.aload_n E dX8_wire_9 0 rfl rfl ?_
        refine G.iload_n E dX8_wire_10 2 rfl rfl ?_
        refine G.callVi (n := 1) (T := TX8) (N := 21) (C := RX8) (a := h 0) (q0 := 0) (As := [.int a1]) E dX8_wire_11 (fun _ hv => c_X8_isNode E.wf hv) gX8_wire_X8_isNode rfl rfl rfl (by decide +kernel) ⟨Nat.le_of_ble_eq_true rfl, Nat.le_of_ble_eq_true rfl⟩ (wsM_at0 _ _ _) rfl rfl (Nat.le_of_ble_eq_true rfl) ⟨Nat.le_of_ble_eq_true rfl, Nat.le_of_ble_eq_true rfl⟩ (fun v8 => ?_)
        refine G.if_ne (tgt := 21) E dX8_wire_14 (by decide) ?_ ?_
        · refine G.loc [0, 1, 2, 3] rfl ?_
          exact hj17 ()
        · refine G.iload_n E dX8_wire_21 3 rfl rfl ?_
          refine G.iconst (v := 1) E dX8_wire_22 (by decide) ?_
          refine G.bipush (v := 60) E dX8_wire_23 (by decide) ?_
          refine G.callSi (n := 3) (As := [.int a2, .int 1, .int 60]) E dX8_wire_25 (fun _ hv => c_X8_in E.wf hv) gX8_wire_X8_in rfl rfl rfl (by decide +kernel) ⟨Nat.le_of_ble_eq_true rfl, Nat.le_of_ble_eq_true rfl⟩ rfl (Nat.le_of_ble_eq_true rfl) ⟨Nat.le_of_ble_eq_true rfl, Nat.le_of_ble_eq_true rfl⟩ (fun v9 => ?_)
          refine G.if_ne (tgt := 35) E dX8_wire_28 (by decide) ?_ ?_
          · refine G.iconst (v := 2) E dX8_wire_31 (by decide) ?_
            refine G.goto (tgt := 61) E dX8_wire_32 (by decide) ?_
            refine G.loc [0, 1, 2, 3] rfl ?_
            exact hj61 2
          · refine G.aload_n E dX8_wire_35 0 rfl rfl ?_
            refine G.getI (T := TX8) (N := 21) (C := RX8) (q0 := 0) (i := 4) E dX8_wire_36 iw_X8_wire_8 (wsM_at0 _ _ _) rfl (by decide) rfl (List.mem_of_getElem? (i := 1) rfl) (fun v10 => ?_)
            refine G.bipush (v := 20) E dX8_wire_39 (by decide) ?_
            refine G.jn (P := fun j => ∀ (_u : Unit), G p l e (headSpec wsX8_wire rm_X8_wire).room s m args below meth c 4 0 0 D (wsM cy h) (adM h) (QM D (wsM cy h) (adM h) below args s 0 0 (fun r : Int32 × Wd => some (.int r.1)) (fun r => r.2)) 56 [(0, .ref (h 0)), (1, .int a0), (2, .int a1), (3, .int a2)] [.ref (h 0)] σ (j _u)) ?_ (fun j56 hj56 => ?_)
            · intro _u
              refine G.iconst (v := 3) E dX8_wire_56 (by decide) ?_
              refine G.goto (tgt := 61) E dX8_wire_57 (by decide) ?_
              refine G.loc [0, 1, 2, 3] rfl ?_
              exact hj61 3
            · refine G.icmp_eq (tgt := 56) E dX8_wire_41 (by decide) ?_ ?_
              · refine G.loc [0, 1, 2, 3] rfl ?_
                exact hj56 ()
              · refine G.aload_n E dX8_wire_44 0 rfl rfl ?_
                refine G.getI (T := TX8) (N := 21) (C := RX8) (q0 := 0) (i := 5) E dX8_wire_45 iw_X8_wire_8 (wsM_at0 _ _ _) rfl (by decide) rfl (List.mem_of_getElem? (i := 2) rfl) (fun v11 => ?_)
                refine G.callSi (n := 1) (As := [.int v11]) E dX8_wire_48 (fun _ hv => c_X8_many E.wf hv) gX8_wire_X8_many rfl rfl rfl (by decide +kernel) ⟨Nat.le_of_ble_eq_true rfl, Nat.le_of_ble_eq_true rfl⟩ rfl (Nat.le_of_ble_eq_true rfl) ⟨Nat.le_of_ble_eq_true rfl, Nat.le_of_ble_eq_true rfl⟩ (fun v12 => ?_)
                refine G.bipush (v := 12) E dX8_wire_51 (by decide) ?_
                refine G.icmp_ne (tgt := 60) E dX8_wire_53 (by decide) ?_ ?_
                · refine G.loc [0, 1, 2, 3] rfl ?_
                  exact hj56 ()
                · refine G.iconst (v := 0) E dX8_wire_60 (by decide) ?_
                  refine G.loc [0, 1, 2, 3] rfl ?_
                  exact hj61 0
set_option maxHeartbeats 4000000 in
set_option maxRecDepth 100000 in
theorem iw_X8_wireIs_8 : ∀ w ∈ u_ws RX8 TX8 21, w ∈ wsX8_wireIs := fun _ h => List.mem_cons_of_mem _ (List.mem_append_right _ h)
abbrev rm_X8_wireIs : Room := { frames := 2, cells := 0, slots := 0, locals := 43 }
noncomputable def f_X8_wireIs (N : Nat) (σ : Wd) (a0 : Int32) (a1 : Int32) : Option (Int32 × Wd) :=
  bP (f_X8_isWire N σ a0) fun v1 =>
  jn (fun (v2 : Int32) => ((
    wI σ 0 0 v2 fun s3 =>
    gI s3 0 0 fun v4 =>
    if v4 ≤ 0 then (
      if a1 = 0 then (
        rI s3 1 20 a0 fun v7 =>
        some (v7, s3))
      else (
        if a1 = 1 then (
          rI s3 2 20 a0 fun v6 =>
          some (v6, s3))
        else (
          rI s3 3 20 a0 fun v5 =>
          some (v5, s3))))
    else (
      some (0, s3))) : Option (Int32 × Wd))) fun j27 =>
  if v1 = 0 then (
    j27 1)
  else (
    bP (f_X8_in N a1 0 2) fun v8 =>
    if v8 = 0 then (
      j27 2)
    else (
      j27 0))
set_option maxHeartbeats 4000000 in
set_option maxRecDepth 100000 in
theorem c_X8_wireIs {l : Launch} {D : va_G} {cy : Nat → ClassId} {h : Nat → Nat} {N : Nat} {σ : Wd} {a0 : Int32} {a1 : Int32} {r : Int32} {σ1 : Wd} (hW : WF (wsM cy h) (adM h)) (hr : f_X8_wireIs N σ a0 a1 = some (r, σ1)) : Con l D cy (wsM cy h) (adM h) yX8_wireIs wsX8_wireIs rm_X8_wireIs 0 0 [.ref (h 0), .int a0, .int a1] (some (.int r)) σ σ1 := by
  refine Con.of (ρ := Int32 × Wd) (lv0 := [(0, .ref (h 0)), (1, .int a0), (2, .int a1)]) (σ := σ) (fun r : Int32 × Wd => some (.int r.1)) (fun r => r.2) (by decide) rfl rfl (Nat.le_of_ble_eq_true rfl) rfl hW hr (fun p e s m args below meth c E => ?_)
  unfold f_X8_wireIs
  refine G.aload_n E dX8_wireIs_0 0 rfl rfl ?_
  refine G.aload_n E dX8_wireIs_1 0 rfl rfl ?_
  refine G.iload_n E dX8_wireIs_2 1 rfl rfl ?_
  refine G.callVi (n := 1) (T := TX8) (N := 21) (C := RX8) (a := h 0) (q0 := 0) (As := [.int a0]) E dX8_wireIs_3 (fun _ hv => c_X8_isWire E.wf hv) gX8_wireIs_X8_isWire rfl rfl rfl (by decide +kernel) ⟨Nat.le_of_ble_eq_true rfl, Nat.le_of_ble_eq_true rfl⟩ (wsM_at0 _ _ _) rfl rfl (Nat.le_of_ble_eq_true rfl) ⟨Nat.le_of_ble_eq_true rfl, Nat.le_of_ble_eq_true rfl⟩ (fun v1 => ?_)
  refine G.jn (P := fun j => ∀ (v2 : Int32), G p l e (headSpec wsX8_wireIs rm_X8_wireIs).room s m args below meth c 3 0 0 D (wsM cy h) (adM h) (QM D (wsM cy h) (adM h) below args s 0 0 (fun r : Int32 × Wd => some (.int r.1)) (fun r => r.2)) 27 [(0, .ref (h 0)), (1, .int a0), (2, .int a1)] [.int v2, .ref (h 0)] σ (j v2)) ?_ (fun j27 hj27 => ?_)
  · intro v2
    refine G.putI (T := TX8) (N := 21) (C := RX8) (q0 := 0) (i := 0) (ty := .int) E dX8_wireIs_27 iw_X8_wireIs_8 tyX8 tyX8_ok nmX8 (wsM_at0 _ _ _) rfl (by decide) (List.mem_of_getElem? (i := 1) rfl) rfl (by decide +kernel) rfl rfl (Nat.le_of_ble_eq_true rfl) (wsM_set0_0 _ _ _ _) (fun s3 => ?_)
    refine G.aload_n E dX8_wireIs_30 0 rfl rfl ?_
    refine G.getI (T := TX8) (N := 21) (C := RX8) (q0 := 0) (i := 0) E dX8_wireIs_31 iw_X8_wireIs_8 (wsM_at0 _ _ _) rfl (by decide) rfl (List.mem_of_getElem? (i := 1) rfl) (fun v4 => ?_)
    refine G.if_le (tgt := 39) E dX8_wireIs_34 (by decide) ?_ ?_
    · refine G.iload_n E dX8_wireIs_39 2 rfl rfl ?_
      refine G.if_ne (tgt := 52) E dX8_wireIs_40 (by decide) ?_ ?_
      · refine G.aload_n E dX8_wireIs_43 0 rfl rfl ?_
        refine G.getR (T := TX8) (N := 21) (C := RX8) (q0 := 0) (i := 6) E dX8_wireIs_44 iw_X8_wireIs_8 (wsM_at0 _ _ _) rfl (by decide) rfl (List.mem_of_getElem? (i := 2) rfl) ?_
        refine G.iload_n E dX8_wireIs_47 1 rfl rfl ?_
        refine G.iald (q0 := 1) E dX8_wireIs_48 (wsM_at1 _ _ _) (fun v7 => ?_)
        refine G.goto (tgt := 72) E dX8_wireIs_49 (by decide) ?_
        exact G.iret E dX8_wireIs_72 rfl rfl
      · refine G.iload_n E dX8_wireIs_52 2 rfl rfl ?_
        refine G.iconst (v := 1) E dX8_wireIs_53 (by decide) ?_
        refine G.icmp_ne (tgt := 66) E dX8_wireIs_54 (by decide) ?_ ?_
        · refine G.aload_n E dX8_wireIs_57 0 rfl rfl ?_
          refine G.getR (T := TX8) (N := 21) (C := RX8) (q0 := 0) (i := 7) E dX8_wireIs_58 iw_X8_wireIs_8 (wsM_at0 _ _ _) rfl (by decide) rfl (List.mem_of_getElem? (i := 3) rfl) ?_
          refine G.iload_n E dX8_wireIs_61 1 rfl rfl ?_
          refine G.iald (q0 := 2) E dX8_wireIs_62 (wsM_at2 _ _ _) (fun v6 => ?_)
          refine G.goto (tgt := 72) E dX8_wireIs_63 (by decide) ?_
          exact G.iret E dX8_wireIs_72 rfl rfl
        · refine G.aload_n E dX8_wireIs_66 0 rfl rfl ?_
          refine G.getR (T := TX8) (N := 21) (C := RX8) (q0 := 0) (i := 8) E dX8_wireIs_67 iw_X8_wireIs_8 (wsM_at0 _ _ _) rfl (by decide) rfl (List.mem_of_getElem? (i := 4) rfl) ?_
          refine G.iload_n E dX8_wireIs_70 1 rfl rfl ?_
          refine G.iald (q0 := 3) E dX8_wireIs_71 (wsM_at3 _ _ _) (fun v5 => ?_)
          exact G.iret E dX8_wireIs_72 rfl rfl
    · refine G.iconst (v := 0) E dX8_wireIs_37 (by decide) ?_
      exact G.iret E dX8_wireIs_38 rfl rfl
  · refine G.if_ne (tgt := 13) E dX8_wireIs_6 (by decide) ?_ ?_
    · refine G.iconst (v := 1) E dX8_wireIs_9 (by decide) ?_
      refine G.goto (tgt := 27) E dX8_wireIs_10 (by decide) ?_
      refine G.loc [0, 1, 2] rfl ?_
      exact hj27 1
    · refine G.iload_n E dX8_wireIs_13 2 rfl rfl ?_
      refine G.iconst (v := 0) E dX8_wireIs_14 (by decide) ?_
      refine G.iconst (v := 2) E dX8_wireIs_15 (by decide) ?_
      refine G.callSi (n := 3) (As := [.int a1, .int 0, .int 2]) E dX8_wireIs_16 (fun _ hv => c_X8_in E.wf hv) gX8_wireIs_X8_in rfl rfl rfl (by decide +kernel) ⟨Nat.le_of_ble_eq_true rfl, Nat.le_of_ble_eq_true rfl⟩ rfl (Nat.le_of_ble_eq_true rfl) ⟨Nat.le_of_ble_eq_true rfl, Nat.le_of_ble_eq_true rfl⟩ (fun v8 => ?_)
      refine G.if_eq (tgt := 26) E dX8_wireIs_19 (by decide) ?_ ?_
      · refine G.iconst (v := 2) E dX8_wireIs_26 (by decide) ?_
        refine G.loc [0, 1, 2] rfl ?_
        exact hj27 2
      · refine G.iconst (v := 0) E dX8_wireIs_22 (by decide) ?_
        refine G.goto (tgt := 27) E dX8_wireIs_23 (by decide) ?_
        refine G.loc [0, 1, 2] rfl ?_
        exact hj27 0
set_option maxHeartbeats 4000000 in
set_option maxRecDepth 100000 in
theorem iw_X8_wires_8 : ∀ w ∈ u_ws RX8 TX8 21, w ∈ wsX8_wires := fun _ h => List.mem_cons_of_mem _ (List.mem_append_right _ h)
abbrev rm_X8_wires : Room := { frames := 0, cells := 0, slots := 0, locals := 0 }
noncomputable def f_X8_wires (N : Nat) (σ : Wd) : Option (Int32 × Wd) :=
  wI σ 0 0 0 fun s1 =>
  gI s1 0 5 fun v2 =>
  some (v2, s1)
set_option maxHeartbeats 4000000 in
set_option maxRecDepth 100000 in
theorem c_X8_wires {l : Launch} {D : va_G} {cy : Nat → ClassId} {h : Nat → Nat} {N : Nat} {σ : Wd} {r : Int32} {σ1 : Wd} (hW : WF (wsM cy h) (adM h)) (hr : f_X8_wires N σ = some (r, σ1)) : Con l D cy (wsM cy h) (adM h) yX8_wires wsX8_wires rm_X8_wires 0 0 [.ref (h 0)] (some (.int r)) σ σ1 := by
  refine Con.of (ρ := Int32 × Wd) (lv0 := [(0, .ref (h 0))]) (σ := σ) (fun r : Int32 × Wd => some (.int r.1)) (fun r => r.2) (by decide) rfl rfl (Nat.le_of_ble_eq_true rfl) rfl hW hr (fun p e s m args below meth c E => ?_)
  unfold f_X8_wires
  refine G.aload_n E dX8_wires_0 0 rfl rfl ?_
  refine G.iconst (v := 0) E dX8_wires_1 (by decide) ?_
  refine G.putI (T := TX8) (N := 21) (C := RX8) (q0 := 0) (i := 0) (ty := .int) E dX8_wires_2 iw_X8_wires_8 tyX8 tyX8_ok nmX8 (wsM_at0 _ _ _) rfl (by decide) (List.mem_of_getElem? (i := 1) rfl) rfl (by decide +kernel) rfl rfl (Nat.le_of_ble_eq_true rfl) (wsM_set0_0 _ _ _ _) (fun s1 => ?_)
  refine G.aload_n E dX8_wires_5 0 rfl rfl ?_
  refine G.getI (T := TX8) (N := 21) (C := RX8) (q0 := 0) (i := 5) E dX8_wires_6 iw_X8_wires_8 (wsM_at0 _ _ _) rfl (by decide) rfl (List.mem_of_getElem? (i := 2) rfl) (fun v2 => ?_)
  exact G.iret E dX8_wires_9 rfl rfl
end TR
