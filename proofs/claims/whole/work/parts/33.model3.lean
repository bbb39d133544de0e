section TR
variable {p : Program} {l : Launch} {e : Env} {s : State} {m : MethodId} {args : Array Value} {below : List Frame} {meth : Method} {c : Code} {D : va_G} {cy : Nat → ClassId} {h : Nat → Nat}

set_option maxHeartbeats 4000000 in
set_option maxRecDepth 100000 in
theorem iw_X8_star_8 : ∀ w ∈ u_ws RX8 TX8 21, w ∈ wsX8_star := fun _ h => List.mem_cons_of_mem _ (List.mem_append_right _ h)
abbrev rm_X8_star : Room := { frames := 1, cells := 0, slots := 0, locals := 24 }
noncomputable def fl_X8_star_12 {ρ : Type} (N : Nat) (x1 : Int32) (x2 : Int32) (K : Wd → Option ρ) : Nat → Int32 → Wd → Option ρ
  | 0, _, _ => none
  | n + 1, x3, s0 =>
    if 3 ≤ x3 then (
      K s0)
    else (
      rI s0 12 3 x3 fun v3 =>
      bP (f_X8_goes N s0 v3) fun s4 =>
      fl_X8_star_12 N x1 x2 K n (x3 + 1) s4)
set_option maxHeartbeats 4000000 in
set_option maxRecDepth 100000 in
theorem gl_X8_star_12 {ρ : Type} {Q : ρ → State → Prop} {N : Nat} {x1 : Int32} {x2 : Int32} {K : Wd → Option ρ} (E : EV p s m args meth c cX8_star 4 RX8 wsX8_star none D cy (wsM cy h) (adM h)) (hK : ∀ (s' : Wd), G p l e (headSpec wsX8_star rm_X8_star).room s m args below meth c 4 0 0 D (wsM cy h) (adM h) Q 33 [(0, .ref (h 0)), (1, .int x1), (2, .int x2)] [] s' (K s')) :
  ∀ (n : Nat) (x3 : Int32) (s0 : Wd), G p l e (headSpec wsX8_star rm_X8_star).room s m args below meth c 4 0 0 D (wsM cy h) (adM h) Q 12 [(0, .ref (h 0)), (1, .int x1), (2, .int x2), (3, .int x3)] [] s0 (fl_X8_star_12 N x1 x2 K n x3 s0) := by
  intro n
  induction n with
  | zero => intros; exact G.no
  | succ n ih =>
    intro x3 s0
    rw [fl_X8_star_12]
    refine G.iload_n E dX8_star_12 3 rfl rfl ?_
    refine G.iconst (v := 3) E dX8_star_13 (by decide) ?_
    refine G.icmp_ge (tgt := 33) E dX8_star_14 (by decide) ?_ ?_
    · refine G.loc [0, 1, 2] rfl ?_
      exact hK s0
    · refine G.aload_n E dX8_star_17 0 rfl rfl ?_
      refine G.aload_n E dX8_star_18 0 rfl rfl ?_
      refine G.getR (T := TX8) (N := 21) (C := RX8) (q0 := 0) (i := 20) E dX8_star_19 iw_X8_star_8 (wsM_at0 _ _ _) rfl (by decide) rfl (List.mem_of_getElem? (i := 2) rfl) ?_
      refine G.iload_n E dX8_star_22 3 rfl rfl ?_
      refine G.iald (q0 := 12) E dX8_star_23 (wsM_at12 _ _ _) (fun v3 => ?_)
      refine G.callVv (n := 1) (T := TX8) (N := 21) (C := RX8) (a := h 0) (q0 := 0) (As := [.int v3]) E dX8_star_24 (fun _ hv => c_X8_goes E.wf hv) gX8_star_X8_goes rfl rfl rfl (by decide +kernel) ⟨Nat.le_of_ble_eq_true rfl, Nat.le_of_ble_eq_true rfl⟩ (wsM_at0 _ _ _) rfl rfl (Nat.le_of_ble_eq_true rfl) ⟨Nat.le_of_ble_eq_true rfl, Nat.le_of_ble_eq_true rfl⟩ (fun s4 => ?_)
      refine G.iinc (v := x3 + 1) (lv' := [(3, .int (x3 + 1)), (0, .ref (h 0)), (1, .int x1), (2, .int x2)]) E dX8_star_27 3 rfl rfl (by decide) rfl ?_
      refine G.goto (tgt := 12) E dX8_star_30 (by decide) ?_
      refine G.loc [1, 2, 3, 0] rfl ?_
      exact ih (x3 + 1) s4
noncomputable def f_X8_star (N : Nat) (σ : Wd) : Option (Wd) :=
  bP (f_X8_products N σ) fun v1 =>
  gI σ 0 1 fun v2 =>
  fl_X8_star_12 N v1 v2 (fun s5 =>
    bS (f_X8_addsNode N s5 0) fun v6 s7 =>
    rI s7 11 3 0 fun v8 =>
    rI s7 12 3 2 fun v9 =>
    rI s7 3 20 v9 fun v10 =>
    dI v1 v10 fun v11 =>
    bS (f_X8_addsWire N s7 v8 v2 v11) fun v12 s13 =>
    rI s13 11 3 1 fun v14 =>
    rI s13 12 3 1 fun v15 =>
    rI s13 3 20 v15 fun v16 =>
    dI v1 v16 fun v17 =>
    bS (f_X8_addsWire N s13 v14 v2 v17) fun v18 s19 =>
    rI s19 11 3 2 fun v20 =>
    rI s19 12 3 0 fun v21 =>
    rI s19 3 20 v21 fun v22 =>
    dI v1 v22 fun v23 =>
    bS (f_X8_addsWire N s19 v20 v2 v23) fun v24 s25 =>
    some s25) N 0 σ
set_option maxHeartbeats 4000000 in
set_option maxRecDepth 100000 in
theorem c_X8_star {l : Launch} {D : va_G} {cy : Nat → ClassId} {h : Nat → Nat} {N : Nat} {σ : Wd} {σ1 : Wd} (hW : WF (wsM cy h) (adM h)) (hr : f_X8_star N σ = some σ1) : Con l D cy (wsM cy h) (adM h) yX8_star wsX8_star rm_X8_star 0 0 [.ref (h 0)] (none) σ σ1 := by
  refine Con.of (ρ := Wd) (lv0 := [(0, .ref (h 0))]) (σ := σ) (fun _ : Wd => none) (fun r => r) (by decide) rfl rfl (Nat.le_of_ble_eq_true rfl) rfl hW hr (fun p e s m args below meth c E => ?_)
  unfold f_X8_star
  refine G.aload_n E dX8_star_0 0 rfl rfl ?_
  refine G.callVi (n := 0) (T := TX8) (N := 21) (C := RX8) (a := h 0) (q0 := 0) (As := []) E dX8_star_1 (fun _ hv => c_X8_products E.wf hv) gX8_star_X8_products rfl rfl rfl (by decide +kernel) ⟨Nat.le_of_ble_eq_true rfl, Nat.le_of_ble_eq_true rfl⟩ (wsM_at0 _ _ _) rfl rfl (Nat.le_of_ble_eq_true rfl) ⟨Nat.le_of_ble_eq_true rfl, Nat.le_of_ble_eq_true rfl⟩ (fun v1 => ?_)
  refine G.istore_n (lv' := [(1, .int v1), (0, .ref (h 0))]) E dX8_star_4 rfl (by decide) rfl ?_
  refine G.aload_n E dX8_star_5 1 rfl rfl ?_
  refine G.getI (T := TX8) (N := 21) (C := RX8) (q0 := 0) (i := 1) E dX8_star_6 iw_X8_star_8 (wsM_at0 _ _ _) rfl (by decide) rfl (List.mem_of_getElem? (i := 1) rfl) (fun v2 => ?_)
  refine G.istore_n (lv' := [(2, .int v2), (1, .int v1), (0, .ref (h 0))]) E dX8_star_9 rfl (by decide) rfl ?_
  refine G.iconst (v := 0) E dX8_star_10 (by decide) ?_
  refine G.istore_n (lv' := [(3, .int 0), (2, .int v2), (1, .int v1), (0, .ref (h 0))]) E dX8_star_11 rfl (by decide) rfl ?_
  refine G.loc [3, 2, 1, 0] rfl ?_
  refine gl_X8_star_12 E (fun s5 => ?_) N _ _
  refine G.aload_n E dX8_star_33 0 rfl rfl ?_
  refine G.iconst (v := 0) E dX8_star_34 (by decide) ?_
  refine G.callVis (n := 1) (T := TX8) (N := 21) (C := RX8) (a := h 0) (q0 := 0) (As := [.int 0]) E dX8_star_35 (fun _ _ hv => c_X8_addsNode E.wf hv) gX8_star_X8_addsNode rfl rfl rfl (by decide +kernel) ⟨Nat.le_of_ble_eq_true rfl, Nat.le_of_ble_eq_true rfl⟩ (wsM_at0 _ _ _) rfl rfl (Nat.le_of_ble_eq_true rfl) ⟨Nat.le_of_ble_eq_true rfl, Nat.le_of_ble_eq_true rfl⟩ (fun v6 s7 => ?_)
  refine G.pop E dX8_star_38 rfl ?_
  refine G.aload_n E dX8_star_39 0 rfl rfl ?_
  refine G.aload_n E dX8_star_40 0 rfl rfl ?_
  refine G.getR (T := TX8) (N := 21) (C := RX8) (q0 := 0) (i := 19) E dX8_star_41 iw_X8_star_8 (wsM_at0 _ _ _) rfl (by decide) rfl (List.mem_of_getElem? (i := 3) rfl) ?_
  refine G.iconst (v := 0) E dX8_star_44 (by decide) ?_
  refine G.iald (q0 := 11) E dX8_star_45 (wsM_at11 _ _ _) (fun v8 => ?_)
  refine G.iload_n E dX8_star_46 2 rfl rfl ?_
  refine G.iload_n E dX8_star_47 1 rfl rfl ?_
  refine G.aload_n E dX8_star_48 0 rfl rfl ?_
  refine G.getR (T := TX8) (N := 21) (C := RX8) (q0 := 0) (i := 8) E dX8_star_49 iw_X8_star_8 (wsM_at0 _ _ _) rfl (by decide) rfl (List.mem_of_getElem? (i := 4) rfl) ?_
  refine G.aload_n E dX8_star_52 0 rfl rfl ?_
  refine G.getR (T := TX8) (N := 21) (C := RX8) (q0 := 0) (i := 20) E dX8_star_53 iw_X8_star_8 (wsM_at0 _ _ _) rfl (by decide) rfl (List.mem_of_getElem? (i := 2) rfl) ?_
  refine G.iconst (v := 2) E dX8_star_56 (by decide) ?_
  refine G.iald (q0 := 12) E dX8_star_57 (wsM_at12 _ _ _) (fun v9 => ?_)
  refine G.iald (q0 := 3) E dX8_star_58 (wsM_at3 _ _ _) (fun v10 => ?_)
  refine G.idiv E dX8_star_59 (fun v11 => ?_)
  refine G.callVis (n := 3) (T := TX8) (N := 21) (C := RX8) (a := h 0) (q0 := 0) (As := [.int v8, .int v2, .int v11]) E dX8_star_60 (fun _ _ hv => c_X8_addsWire E.wf hv) gX8_star_X8_addsWire rfl rfl rfl (by decide +kernel) ⟨Nat.le_of_ble_eq_true rfl, Nat.le_of_ble_eq_true rfl⟩ (wsM_at0 _ _ _) rfl rfl (Nat.le_of_ble_eq_true rfl) ⟨Nat.le_of_ble_eq_true rfl, Nat.le_of_ble_eq_true rfl⟩ (fun v12 s13 => ?_)
  refine G.pop E dX8_star_63 rfl ?_
  refine G.aload_n E dX8_star_64 0 rfl rfl ?_
  refine G.aload_n E dX8_star_65 0 rfl rfl ?_
  refine G.getR (T := TX8) (N := 21) (C := RX8) (q0 := 0) (i := 19) E dX8_star_66 iw_X8_star_8 (wsM_at0 _ _ _) rfl (by decide) rfl (List.mem_of_getElem? (i := 3) rfl) ?_
  refine G.iconst (v := 1) E dX8_star_69 (by decide) ?_
  refine G.iald (q0 := 11) E dX8_star_70 (wsM_at11 _ _ _) (fun v14 => ?_)
  refine G.iload_n E dX8_star_71 2 rfl rfl ?_
  refine G.iload_n E dX8_star_72 1 rfl rfl ?_
  refine G.aload_n E dX8_star_73 0 rfl rfl ?_
  refine G.getR (T := TX8) (N := 21) (C := RX8) (q0 := 0) (i := 8) E dX8_star_74 iw_X8_star_8 (wsM_at0 _ _ _) rfl (by decide) rfl (List.mem_of_getElem? (i := 4) rfl) ?_
  refine G.aload_n E dX8_star_77 0 rfl rfl ?_
  refine G.getR (T := TX8) (N := 21) (C := RX8) (q0 := 0) (i := 20) E dX8_star_78 iw_X8_star_8 (wsM_at0 _ _ _) rfl (by decide) rfl (List.mem_of_getElem? (i := 2) rfl) ?_
  refine G.iconst (v := 1) E dX8_star_81 (by decide) ?_
  refine G.iald (q0 := 12) E dX8_star_82 (wsM_at12 _ _ _) (fun v15 => ?_)
  refine G.iald (q0 := 3) E dX8_star_83 (wsM_at3 _ _ _) (fun v16 => ?_)
  refine G.idiv E dX8_star_84 (fun v17 => ?_)
  refine G.callVis (n := 3) (T := TX8) (N := 21) (C := RX8) (a := h 0) (q0 := 0) (As := [.int v14, .int v2, .int v17]) E dX8_star_85 (fun _ _ hv => c_X8_addsWire E.wf hv) gX8_star_X8_addsWire rfl rfl rfl (by decide +kernel) ⟨Nat.le_of_ble_eq_true rfl, Nat.le_of_ble_eq_true rfl⟩ (wsM_at0 _ _ _) rfl rfl (Nat.le_of_ble_eq_true rfl) ⟨Nat.le_of_ble_eq_true rfl, Nat.le_of_ble_eq_true rfl⟩ (fun v18 s19 => ?_)
  refine G.pop E dX8_star_88 rfl ?_
  refine G.aload_n E dX8_star_89 0 rfl rfl ?_
  refine G.aload_n E dX8_star_90 0 rfl rfl ?_
  refine G.getR (T := TX8) (N := 21) (C := RX8) (q0 := 0) (i := 19) E dX8_star_91 iw_X8_star_8 (wsM_at0 _ _ _) rfl (by decide) rfl (List.mem_of_getElem? (i := 3) rfl) ?_
  refine G.iconst (v := 2) E dX8_star_94 (by decide) ?_
  refine G.iald (q0 := 11) E dX8_star_95 (wsM_at11 _ _ _) (fun v20 => ?_)
  refine G.iload_n E dX8_star_96 2 rfl rfl ?_
  refine G.iload_n E dX8_star_97 1 rfl rfl ?_
  refine G.aload_n E dX8_star_98 0 rfl rfl ?_
  refine G.getR (T := TX8) (N := 21) (C := RX8) (q0 := 0) (i := 8) E dX8_star_99 iw_X8_star_8 (wsM_at0 _ _ _) rfl (by decide) rfl (List.mem_of_getElem? (i := 4) rfl) ?_
  refine G.aload_n E dX8_star_102 0 rfl rfl ?_
  refine G.getR (T := TX8) (N := 21) (C := RX8) (q0 := 0) (i := 20) E dX8_star_103 iw_X8_star_8 (wsM_at0 _ _ _) rfl (by decide) rfl (List.mem_of_getElem? (i := 2) rfl) ?_
  refine G.iconst (v := 0) E dX8_star_106 (by decide) ?_
  refine G.iald (q0 := 12) E dX8_star_107 (wsM_at12 _ _ _) (fun v21 => ?_)
  refine G.iald (q0 := 3) E dX8_star_108 (wsM_at3 _ _ _) (fun v22 => ?_)
  refine G.idiv E dX8_star_109 (fun v23 => ?_)
  refine G.callVis (n := 3) (T := TX8) (N := 21) (C := RX8) (a := h 0) (q0 := 0) (As := [.int v20, .int v2, .int v23]) E dX8_star_110 (fun _ _ hv => c_X8_addsWire E.wf hv) gX8_star_X8_addsWire rfl rfl rfl (by decide +kernel) ⟨Nat.le_of_ble_eq_true rfl, Nat.le_of_ble_eq_true rfl⟩ (wsM_at0 _ _ _) rfl rfl (Nat.le_of_ble_eq_true rfl) ⟨Nat.le_of_ble_eq_true rfl, Nat.le_of_ble_eq_true rfl⟩ (fun v24 s25 => ?_)
  refine G.pop E dX8_star_113 rfl ?_
  exact G.vret E dX8_star_114 rfl rfl
set_option maxHeartbeats 4000000 in
set_option maxRecDepth 100000 in
theorem iw_X8_does_8 : ∀ w ∈ u_ws RX8 TX8 21, w ∈ wsX8_does := fun _ h => List.mem_cons_of_mem _ (List.mem_append_right _ h)
abbrev rm_X8_does : Room := { frames := 2, cells := 0, slots := 0, locals := 49 }
noncomputable def f_X8_does (N : Nat) (σ : Wd) (a0 : Int32) (a1 : Int32) : Option (Wd) :=
  bP (f_X8_keepsNetwork N σ) fun s1 =>
  if a0 = 0 then (
    bP (f_X8_goes N s1 a1) fun s2 =>
    some s2)
  else if a0 = 1 then (
    bP (f_X8_alike N s1 a1) fun v3 =>
    rI s1 3 20 a1 fun v4 =>
    rI s1 3 20 v3 fun v5 =>
    aI s1 3 20 a1 (v4 + v5) fun s6 =>
    bP (f_X8_goes N s6 v3) fun s7 =>
    some s7)
  else if a0 = 2 then (
    rI s1 12 3 0 fun v8 =>
    bP (f_X8_goes N s1 v8) fun s9 =>
    gI s9 0 2 fun v10 =>
    wI s9 0 2 (v10 &&& ((1 <<< (a1 &&& 31)) ^^^ (-1))) fun s11 =>
    some s11)
  else if a0 = 3 then (
    bP (f_X8_series N s1 a1) fun s12 =>
    some s12)
  else if a0 = 4 then (
    bP (f_X8_triangle N s1 a1) fun s13 =>
    some s13)
  else (
    bP (f_X8_star N s1) fun s14 =>
    some s14)
set_option maxHeartbeats 4000000 in
set_option maxRecDepth 100000 in
theorem c_X8_does {l : Launch} {D : va_G} {cy : Nat → ClassId} {h : Nat → Nat} {N : Nat} {σ : Wd} {a0 : Int32} {a1 : Int32} {σ1 : Wd} (hW : WF (wsM cy h) (adM h)) (hr : f_X8_does N σ a0 a1 = some σ1) : Con l D cy (wsM cy h) (adM h) yX8_does wsX8_does rm_X8_does 0 0 [.ref (h 0), .int a0, .int a1] (none) σ σ1 := by
  refine Con.of (ρ := Wd) (lv0 := [(0, .ref (h 0)), (1, .int a0), (2, .int a1)]) (σ := σ) (fun _ : Wd => none) (fun r => r) (by decide) rfl rfl (Nat.le_of_ble_eq_true rfl) rfl hW hr (fun p e s m args below meth c E => ?_)
  unfold f_X8_does
  refine G.aload_n E dX8_does_0 0 rfl rfl ?_
  refine G.callVv (n := 0) (T := TX8) (N := 21) (C := RX8) (a := h 0) (q0 := 0) (As := []) E dX8_does_1 (fun _ hv => c_X8_keepsNetwork E.wf hv) gX8_does_X8_keepsNetwork rfl rfl rfl (by decide +kernel) ⟨Nat.le_of_ble_eq_true rfl, Nat.le_of_ble_eq_true rfl⟩ (wsM_at0 _ _ _) rfl rfl (Nat.le_of_ble_eq_true rfl) ⟨Nat.le_of_ble_eq_true rfl, Nat.le_of_ble_eq_true rfl⟩ (fun s1 => ?_)
  refine G.iload_n E dX8_does_4 1 rfl rfl ?_
  refine G.swIn (c0 := 0) (tgt := 40) E dX8_does_5 (by decide) (by decide) rfl (by decide) ?_ (fun n0 => ?_)
  · refine G.aload_n E dX8_does_40 0 rfl rfl ?_
    refine G.iload_n E dX8_does_41 2 rfl rfl ?_
    refine G.callVv (n := 1) (T := TX8) (N := 21) (C := RX8) (a := h 0) (q0 := 0) (As := [.int a1]) E dX8_does_42 (fun _ hv => c_X8_goes E.wf hv) gX8_does_X8_goes rfl rfl rfl (by decide +kernel) ⟨Nat.le_of_ble_eq_true rfl, Nat.le_of_ble_eq_true rfl⟩ (wsM_at0 _ _ _) rfl rfl (Nat.le_of_ble_eq_true rfl) ⟨Nat.le_of_ble_eq_true rfl, Nat.le_of_ble_eq_true rfl⟩ (fun s2 => ?_)
    refine G.goto (tgt := 124) E dX8_does_45 (by decide) ?_
    exact G.vret E dX8_does_124 rfl rfl
  refine G.swIn (c0 := 1) (tgt := 48) E dX8_does_5 (by decide) (by decide) rfl (by decide) ?_ (fun n1 => ?_)
  · refine G.aload_n E dX8_does_48 0 rfl rfl ?_
    refine G.iload_n E dX8_does_49 2 rfl rfl ?_
    refine G.callVi (n := 1) (T := TX8) (N := 21) (C := RX8) (a := h 0) (q0 := 0) (As := [.int a1]) E dX8_does_50 (fun _ hv => c_X8_alike E.wf hv) gX8_does_X8_alike rfl rfl rfl (by decide +kernel) ⟨Nat.le_of_ble_eq_true rfl, Nat.le_of_ble_eq_true rfl⟩ (wsM_at0 _ _ _) rfl rfl (Nat.le_of_ble_eq_true rfl) ⟨Nat.le_of_ble_eq_true rfl, Nat.le_of_ble_eq_true rfl⟩ (fun v3 => ?_)
    refine G.istore_n (lv' := [(3, .int v3), (0, .ref (h 0)), (1, .int a0), (2, .int a1)]) E dX8_does_53 rfl (by decide) rfl ?_
    refine G.aload_n E dX8_does_54 1 rfl rfl ?_
    refine G.getR (T := TX8) (N := 21) (C := RX8) (q0 := 0) (i := 8) E dX8_does_55 iw_X8_does_8 (wsM_at0 _ _ _) rfl (by decide) rfl (List.mem_of_getElem? (i := 1) rfl) ?_
    refine G.iload_n E dX8_does_58 3 rfl rfl ?_
    refine G.dup2 E dX8_does_59 rfl rfl ?_
    refine G.iald (q0 := 3) E dX8_does_60 (wsM_at3 _ _ _) (fun v4 => ?_)
    refine G.aload_n E dX8_does_61 1 rfl rfl ?_
    refine G.getR (T := TX8) (N := 21) (C := RX8) (q0 := 0) (i := 8) E dX8_does_62 iw_X8_does_8 (wsM_at0 _ _ _) rfl (by decide) rfl (List.mem_of_getElem? (i := 1) rfl) ?_
    refine G.iload_n E dX8_does_65 0 rfl rfl ?_
    refine G.iald (q0 := 3) E dX8_does_66 (wsM_at3 _ _ _) (fun v5 => ?_)
    refine G.iadd E dX8_does_67 ?_
    refine G.iast (q0 := 3) E dX8_does_68 (wsM_at3 _ _ _) (fun j => wsM_set3 _ _ _ _ j) (fun s6 => ?_)
    refine G.aload_n E dX8_does_69 1 rfl rfl ?_
    refine G.iload_n E dX8_does_70 0 rfl rfl ?_
    refine G.callVv (n := 1) (T := TX8) (N := 21) (C := RX8) (a := h 0) (q0 := 0) (As := [.int v3]) E dX8_does_71 (fun _ hv => c_X8_goes E.wf hv) gX8_does_X8_goes rfl rfl rfl (by decide +kernel) ⟨Nat.le_of_ble_eq_true rfl, Nat.le_of_ble_eq_true rfl⟩ (wsM_at0 _ _ _) rfl rfl (Nat.le_of_ble_eq_true rfl) ⟨Nat.le_of_ble_eq_true rfl, Nat.le_of_ble_eq_true rfl⟩ (fun s7 => ?_)
    refine G.goto (tgt := 124) E dX8_does_74 (by decide) ?_
    exact G.vret E dX8_does_124 rfl rfl
  refine G.swIn (c0 := 2) (tgt := 77) E dX8_does_5 (by decide) (by decide) rfl (by decide) ?_ (fun n2 => ?_)
  · refine G.aload_n E dX8_does_77 0 rfl rfl ?_
    refine G.aload_n E dX8_does_78 0 rfl rfl ?_
    refine G.getR (T := TX8) (N := 21) (C := RX8) (q0 := 0) (i := 20) E dX8_does_79 iw_X8_does_8 (wsM_at0 _ _ _) rfl (by decide) rfl (List.mem_of_getElem? (i := 2) rfl) ?_
    refine G.iconst (v := 0) E dX8_does_82 (by decide) ?_
    refine G.iald (q0 := 12) E dX8_does_83 (wsM_at12 _ _ _) (fun v8 => ?_)
    refine G.callVv (n := 1) (T := TX8) (N := 21) (C := RX8) (a := h 0) (q0 := 0) (As := [.int v8]) E dX8_does_84 (fun _ hv => c_X8_goes E.wf hv) gX8_does_X8_goes rfl rfl rfl (by decide +kernel) ⟨Nat.le_of_ble_eq_true rfl, Nat.le_of_ble_eq_true rfl⟩ (wsM_at0 _ _ _) rfl rfl (Nat.le_of_ble_eq_true rfl) ⟨Nat.le_of_ble_eq_true rfl, Nat.le_of_ble_eq_true rfl⟩ (fun s9 => ?_)
    refine G.aload_n E dX8_does_87 0 rfl rfl ?_
    refine G.dup E dX8_does_88 rfl ?_
    refine G.getI (T := TX8) (N := 21) (C := RX8) (q0 := 0) (i := 2) E dX8_does_89 iw_X8_does_8 (wsM_at0 _ _ _) rfl (by decide) rfl (List.mem_of_getElem? (i := 3) rfl) (fun v10 => ?_)
    refine G.iconst (v := 1) E dX8_does_92 (by decide) ?_
    refine G.iload_n E dX8_does_93 2 rfl rfl ?_
    refine G.ishl E dX8_does_94 ?_
    refine G.iconst (v := (-1)) E dX8_does_95 (by decide) ?_
    refine G.ixor E dX8_does_96 ?_
    refine G.iand E dX8_does_97 ?_
    refine G.putI (T := TX8) (N := 21) (C := RX8) (q0 := 0) (i := 2) (ty := .int) E dX8_does_98 iw_X8_does_8 tyX8 tyX8_ok nmX8 (wsM_at0 _ _ _) rfl (by decide) (List.mem_of_getElem? (i := 3) rfl) rfl (by decide +kernel) rfl rfl (Nat.le_of_ble_eq_true rfl) (wsM_set0_2 _ _ _ _) (fun s11 => ?_)
    refine G.goto (tgt := 124) E dX8_does_101 (by decide) ?_
    exact G.vret E dX8_does_124 rfl rfl
  refine G.swIn (c0 := 3) (tgt := 104) E dX8_does_5 (by decide) (by decide) rfl (by decide) ?_ (fun n3 => ?_)
  · refine G.aload_n E dX8_does_104 0 rfl rfl ?_
    refine G.iload_n E dX8_does_105 2 rfl rfl ?_
    refine G.callVv (n := 1) (T := TX8) (N := 21) (C := RX8) (a := h 0) (q0 := 0) (As := [.int a1]) E dX8_does_106 (fun _ hv => c_X8_series E.wf hv) gX8_does_X8_series rfl rfl rfl (by decide +kernel) ⟨Nat.le_of_ble_eq_true rfl, Nat.le_of_ble_eq_true rfl⟩ (wsM_at0 _ _ _) rfl rfl (Nat.le_of_ble_eq_true rfl) ⟨Nat.le_of_ble_eq_true rfl, Nat.le_of_ble_eq_true rfl⟩ (fun s12 => ?_)
    refine G.goto (tgt := 124) E dX8_does_109 (by decide) ?_
    exact G.vret E dX8_does_124 rfl rfl
  refine G.swIn (c0 := 4) (tgt := 112) E dX8_does_5 (by decide) (by decide) rfl (by decide) ?_ (fun n4 => ?_)
  · refine G.aload_n E dX8_does_112 0 rfl rfl ?_
    refine G.iload_n E dX8_does_113 2 rfl rfl ?_
    refine G.callVv (n := 1) (T := TX8) (N := 21) (C := RX8) (a := h 0) (q0 := 0) (As := [.int a1]) E dX8_does_114 (fun _ hv => c_X8_triangle E.wf hv) gX8_does_X8_triangle rfl rfl rfl (by decide +kernel) ⟨Nat.le_of_ble_eq_true rfl, Nat.le_of_ble_eq_true rfl⟩ (wsM_at0 _ _ _) rfl rfl (Nat.le_of_ble_eq_true rfl) ⟨Nat.le_of_ble_eq_true rfl, Nat.le_of_ble_eq_true rfl⟩ (fun s13 => ?_)
    refine G.goto (tgt := 124) E dX8_does_117 (by decide) ?_
    exact G.vret E dX8_does_124 rfl rfl
  refine G.swOut (tgt := 120) E dX8_does_5 (by have := lv_neT (a := 0) n0 (by decide); have := lv_neT (a := 1) n1 (by decide); have := lv_neT (a := 2) n2 (by decide); have := lv_neT (a := 3) n3 (by decide); have := lv_neT (a := 4) n4 (by decide); omega) (by decide) ?_
  refine G.aload_n E dX8_does_120 0 rfl rfl ?_
  refine G.callVv (n := 0) (T := TX8) (N := 21) (C := RX8) (a := h 0) (q0 := 0) (As := []) E dX8_does_121 (fun _ hv => c_X8_star E.wf hv) gX8_does_X8_star rfl rfl rfl (by decide +kernel) ⟨Nat.le_of_ble_eq_true rfl, Nat.le_of_ble_eq_true rfl⟩ (wsM_at0 _ _ _) rfl rfl (Nat.le_of_ble_eq_true rfl) ⟨Nat.le_of_ble_eq_true rfl, Nat.le_of_ble_eq_true rfl⟩ (fun s14 => ?_)
  exact G.vret E dX8_does_124 rfl rfl
set_option maxHeartbeats 4000000 in
set_option maxRecDepth 100000 in
theorem iw_X8_erases_8 : ∀ w ∈ u_ws RX8 TX8 21, w ∈ wsX8_erases := fun _ h => List.mem_cons_of_mem _ (List.mem_append_right _ h)
abbrev rm_X8_erases : Room := { frames := 2, cells := 0, slots := 0, locals := 45 }
noncomputable def fl_X8_erases_4 (N : Nat) (σ : Wd) (x1 : Int32) (x2 : Int32) (K : Unit → Option (Int32 × Wd)) : Nat → Int32 → Option (Int32 × Wd)
  | 0, _ => none
  | n + 1, x3 =>
    if x1 ≤ x3 then (
      K ())
    else (
      jn (fun (_u : Unit) => ((
        fl_X8_erases_4 N σ x1 x2 K n (x3 + 1)) : Option (Int32 × Wd))) fun j36 =>
      if x3 ≤ 0 then (
        j36 ())
      else (
        rI σ 10 10 (x3 - 1) fun v1 =>
        rI σ 10 10 x3 fun v2 =>
        bP (f_X8_areJoined N σ v1 v2) fun v3 =>
        if v3 = 0 then (
          some ((-1), σ))
        else (
          j36 ())))
set_option maxHeartbeats 4000000 in
set_option maxRecDepth 100000 in
theorem gl_X8_erases_4 {N : Nat} {σ : Wd} {x1 : Int32} {x2 : Int32} {K : Unit → Option (Int32 × Wd)} (E : EV p s m args meth c cX8_erases 6 RX8 wsX8_erases (some .int) D cy (wsM cy h) (adM h)) (hK : ∀ (u : Unit), G p l e (headSpec wsX8_erases rm_X8_erases).room s m args below meth c 6 0 0 D (wsM cy h) (adM h) (QM D (wsM cy h) (adM h) below args s 0 0 (fun r : Int32 × Wd => some (.int r.1)) (fun r => r.2)) 42 [(0, .ref (h 0)), (1, .int x1), (2, .int x2)] [] σ (K u)) :
  ∀ (n : Nat) (x3 : Int32), G p l e (headSpec wsX8_erases rm_X8_erases).room s m args below meth c 6 0 0 D (wsM cy h) (adM h) (QM D (wsM cy h) (adM h) below args s 0 0 (fun r : Int32 × Wd => some (.int r.1)) (fun r => r.2)) 4 [(0, .ref (h 0)), (1, .int x1), (2, .int x2), (3, .int x3)] [] σ (fl_X8_erases_4 N σ x1 x2 K n x3) := by
  intro n
  induction n with
  | zero => intros; exact G.no
  | succ n ih =>
    intro x3
    rw [fl_X8_erases_4]
    refine G.iload_n E dX8_erases_4 3 rfl rfl ?_
    refine G.iload_n E dX8_erases_5 1 rfl rfl ?_
    refine G.icmp_ge (tgt := 42) E dX8_erases_6 (by decide) ?_ ?_
    · refine G.loc [0, 1, 2] rfl ?_
      exact hK ()
    · refine G.iload_n E dX8_erases_9 3 rfl rfl ?_
      refine G.jn (P := fun j => ∀ (_u : Unit), G p l e (headSpec wsX8_erases rm_X8_erases).room s m args below meth c 6 0 0 D (wsM cy h) (adM h) (QM D (wsM cy h) (adM h) below args s 0 0 (fun r : Int32 × Wd => some (.int r.1)) (fun r => r.2)) 36 [(0, .ref (h 0)), (1, .int x1), (2, .int x2), (3, .int x3)] [] σ (j _u)) ?_ (fun j36 hj36 => ?_)
      · intro _u
        refine G.iinc (v := x3 + 1) (lv' := [(3, .int (x3 + 1)), (0, .ref (h 0)), (1, .int x1), (2, .int x2)]) E dX8_erases_36 3 rfl rfl (by decide) rfl ?_
        refine G.goto (tgt := 4) E dX8_erases_39 (by decide) ?_
        refine G.loc [1, 2, 3, 0] rfl ?_
        exact ih (x3 + 1)
      · refine G.if_le (tgt := 36) E dX8_erases_10 (by decide) ?_ ?_
        · refine G.loc [0, 1, 2, 3] rfl ?_
          exact hj36 ()
        · refine G.aload_n E dX8_erases_13 0 rfl rfl ?_
          refine G.aload_n E dX8_erases_14 0 rfl rfl ?_
          refine G.getR (T := TX8) (N := 21) (C := RX8) (q0 := 0) (i := 18) E dX8_erases_15 iw_X8_erases_8 (wsM_at0 _ _ _) rfl (by decide) rfl (List.mem_of_getElem? (i := 1) rfl) ?_
          refine G.iload_n E dX8_erases_18 3 rfl rfl ?_
          refine G.iconst (v := 1) E dX8_erases_19 (by decide) ?_
          refine G.isub E dX8_erases_20 ?_
          refine G.iald (q0 := 10) E dX8_erases_21 (wsM_at10 _ _ _) (fun v1 => ?_)
          refine G.aload_n E dX8_erases_22 0 rfl rfl ?_
          refine G.getR (T := TX8) (N := 21) (C := RX8) (q0 := 0) (i := 18) E dX8_erases_23 iw_X8_erases_8 (wsM_at0 _ _ _) rfl (by decide) rfl (List.mem_of_getElem? (i := 1) rfl) ?_
          refine G.iload_n E dX8_erases_26 3 rfl rfl ?_
          refine G.iald (q0 := 10) E dX8_erases_27 (wsM_at10 _ _ _) (fun v2 => ?_)
          refine G.callVi (n := 2) (T := TX8) (N := 21) (C := RX8) (a := h 0) (q0 := 0) (As := [.int v1, .int v2]) E dX8_erases_28 (fun _ hv => c_X8_areJoined E.wf hv) gX8_erases_X8_areJoined rfl rfl rfl (by decide +kernel) ⟨Nat.le_of_ble_eq_true rfl, Nat.le_of_ble_eq_true rfl⟩ (wsM_at0 _ _ _) rfl rfl (Nat.le_of_ble_eq_true rfl) ⟨Nat.le_of_ble_eq_true rfl, Nat.le_of_ble_eq_true rfl⟩ (fun v3 => ?_)
          refine G.if_ne (tgt := 36) E dX8_erases_31 (by decide) ?_ ?_
          · refine G.iconst (v := (-1)) E dX8_erases_34 (by decide) ?_
            exact G.iret E dX8_erases_35 rfl rfl
          · refine G.loc [0, 1, 2, 3] rfl ?_
            exact hj36 ()
noncomputable def fl_X8_erases_60 {ρ : Type} (N : Nat) (σ : Wd) (x1 : Int32) (x2 : Int32) (x3 : Int32) (x4 : Int32) (K : Int32 → Option ρ) : Nat → Int32 → Option ρ
  | 0, _ => none
  | n + 1, x5 =>
    if x2 ≤ x5 then (
      K x5)
    else (
      rI σ 10 10 x5 fun v5 =>
      if v5 = x4 then (
        K x5)
      else (
        fl_X8_erases_60 N σ x1 x2 x3 x4 K n (x5 + 1)))
set_option maxHeartbeats 4000000 in
set_option maxRecDepth 100000 in
theorem gl_X8_erases_60 {ρ : Type} {Q : ρ → State → Prop} {N : Nat} {σ : Wd} {x1 : Int32} {x2 : Int32} {x3 : Int32} {x4 : Int32} {K : Int32 → Option ρ} (E : EV p s m args meth c cX8_erases 6 RX8 wsX8_erases (some .int) D cy (wsM cy h) (adM h)) (hK : ∀ (x5' : Int32), G p l e (headSpec wsX8_erases rm_X8_erases).room s m args below meth c 6 0 0 D (wsM cy h) (adM h) Q 84 [(0, .ref (h 0)), (1, .int x1), (3, .int x3), (4, .int x4), (5, .int (x5'))] [] σ (K x5')) :
  ∀ (n : Nat) (x5 : Int32), G p l e (headSpec wsX8_erases rm_X8_erases).room s m args below meth c 6 0 0 D (wsM cy h) (adM h) Q 60 [(0, .ref (h 0)), (1, .int x1), (2, .int x2), (3, .int x3), (4, .int x4), (5, .int x5)] [] σ (fl_X8_erases_60 N σ x1 x2 x3 x4 K n x5) := by
  intro n
  induction n with
  | zero => intros; exact G.no
  | succ n ih =>
    intro x5
    rw [fl_X8_erases_60]
    refine G.iload E dX8_erases_60 5 rfl ?_
    refine G.iload_n E dX8_erases_62 2 rfl rfl ?_
    refine G.icmp_ge (tgt := 84) E dX8_erases_63 (by decide) ?_ ?_
    · refine G.loc [0, 1, 3, 4, 5] rfl ?_
      exact hK x5
    · refine G.aload_n E dX8_erases_66 0 rfl rfl ?_
      refine G.getR (T := TX8) (N := 21) (C := RX8) (q0 := 0) (i := 18) E dX8_erases_67 iw_X8_erases_8 (wsM_at0 _ _ _) rfl (by decide) rfl (List.mem_of_getElem? (i := 1) rfl) ?_
      refine G.iload E dX8_erases_70 5 rfl ?_
      refine G.iald (q0 := 10) E dX8_erases_72 (wsM_at10 _ _ _) (fun v5 => ?_)
      refine G.iload E dX8_erases_73 4 rfl ?_
      refine G.icmp_eq (tgt := 84) E dX8_erases_75 (by decide) ?_ ?_
      · refine G.loc [0, 1, 3, 4, 5] rfl ?_
        exact hK x5
      · refine G.iinc (v := x5 + 1) (lv' := [(5, .int (x5 + 1)), (0, .ref (h 0)), (1, .int x1), (2, .int x2), (3, .int x3), (4, .int x4)]) E dX8_erases_78 5 rfl rfl (by decide) rfl ?_
        refine G.goto (tgt := 60) E dX8_erases_81 (by decide) ?_
        refine G.loc [1, 2, 3, 4, 5, 0] rfl ?_
        exact ih (x5 + 1)
noncomputable def fl_X8_erases_44 {ρ : Type} (N : Nat) (x1 : Int32) (K : Int32 → Wd → Option ρ) : Nat → Int32 → Int32 → Wd → Option ρ
  | 0, _, _, _ => none
  | n + 1, x2, x3, s0 =>
    if x1 ≤ x3 then (
      K x2 s0)
    else (
      rI s0 10 10 x3 fun v4 =>
      fl_X8_erases_60 N s0 x1 x2 x3 v4 (fun v6 =>
        aI s0 10 10 v6 v4 fun s7 =>
        lI (v6 + 1) fun v8 =>
        fl_X8_erases_44 N x1 K n v8 (x3 + 1) s7) N 0)
set_option maxHeartbeats 4000000 in
set_option maxRecDepth 100000 in
theorem gl_X8_erases_44 {ρ : Type} {Q : ρ → State → Prop} {N : Nat} {x1 : Int32} {K : Int32 → Wd → Option ρ} (E : EV p s m args meth c cX8_erases 6 RX8 wsX8_erases (some .int) D cy (wsM cy h) (adM h)) (hK : ∀ (x2' : Int32) (s' : Wd), G p l e (headSpec wsX8_erases rm_X8_erases).room s m args below meth c 6 0 0 D (wsM cy h) (adM h) Q 104 [(2, .int (x2'))] [] s' (K x2' s')) :
  ∀ (n : Nat) (x2 : Int32) (x3 : Int32) (s0 : Wd), G p l e (headSpec wsX8_erases rm_X8_erases).room s m args below meth c 6 0 0 D (wsM cy h) (adM h) Q 44 [(0, .ref (h 0)), (1, .int x1), (2, .int x2), (3, .int x3)] [] s0 (fl_X8_erases_44 N x1 K n x2 x3 s0) := by
  intro n
  induction n with
  | zero => intros; exact G.no
  | succ n ih =>
    intro x2 x3 s0
    rw [fl_X8_erases_44]
    refine G.iload_n E dX8_erases_44 3 rfl rfl ?_
    refine G.iload_n E dX8_erases_45 1 rfl rfl ?_
    refine G.icmp_ge (tgt := 104) E dX8_erases_46 (by decide) ?_ ?_
    · refine G.loc [2] rfl ?_
      exact hK x2 s0
    · refine G.aload_n E dX8_erases_49 0 rfl rfl ?_
      refine G.getR (T := TX8) (N := 21) (C := RX8) (q0 := 0) (i := 18) E dX8_erases_50 iw_X8_erases_8 (wsM_at0 _ _ _) rfl (by decide) rfl (List.mem_of_getElem? (i := 1) rfl) ?_
      refine G.iload_n E dX8_erases_53 3 rfl rfl ?_
      refine G.iald (q0 := 10) E dX8_erases_54 (wsM_at10 _ _ _) (fun v4 => ?_)
      refine G.istore (lv' := [(4, .int v4), (0, .ref (h 0)), (1, .int x1), (2, .int x2), (3, .int x3)]) E dX8_erases_55 (by decide) rfl ?_
      refine G.iconst (v := 0) E dX8_erases_57 (by decide) ?_
      refine G.istore (lv' := [(5, .int 0), (4, .int v4), (0, .ref (h 0)), (1, .int x1), (2, .int x2), (3, .int x3)]) E dX8_erases_58 (by decide) rfl ?_
      refine G.loc [2, 3, 4, 5, 1, 0] rfl ?_
      refine gl_X8_erases_60 E (fun v6 => ?_) N _
      refine G.aload_n E dX8_erases_84 0 rfl rfl ?_
      refine G.getR (T := TX8) (N := 21) (C := RX8) (q0 := 0) (i := 18) E dX8_erases_85 iw_X8_erases_8 (wsM_at0 _ _ _) rfl (by decide) rfl (List.mem_of_getElem? (i := 1) rfl) ?_
      refine G.iload E dX8_erases_88 4 rfl ?_
      refine G.iload E dX8_erases_90 3 rfl ?_
      refine G.iast (q0 := 10) E dX8_erases_92 (wsM_at10 _ _ _) (fun j => wsM_set10 _ _ _ _ j) (fun s7 => ?_)
      refine G.iload E dX8_erases_93 4 rfl ?_
      refine G.iconst (v := 1) E dX8_erases_95 (by decide) ?_
      refine G.iadd E dX8_erases_96 ?_
      refine G.letI (fun v8 => ?_)
      refine G.istore_n (lv' := [(2, .int v8), (0, .ref (h 0)), (1, .int x1), (3, .int x3), (4, .int v4), (5, .int v6)]) E dX8_erases_97 rfl (by decide) rfl ?_
      refine G.iinc (v := x3 + 1) (lv' := [(3, .int (x3 + 1)), (2, .int v8), (0, .ref (h 0)), (1, .int x1), (4, .int v4), (5, .int v6)]) E dX8_erases_98 3 rfl rfl (by decide) rfl ?_
      refine G.goto (tgt := 44) E dX8_erases_101 (by decide) ?_
      refine G.loc [2, 3, 1, 0] rfl ?_
      exact ih v8 (x3 + 1) s7
noncomputable def f_X8_erases (N : Nat) (σ : Wd) (a0 : Int32) : Option (Int32 × Wd) :=
  fl_X8_erases_4 N σ a0 0 (fun (_ : Unit) =>
    fl_X8_erases_44 N a0 (fun v9 s10 =>
      some (v9, s10)) N 0 0 σ) N 0
set_option maxHeartbeats 4000000 in
set_option maxRecDepth 100000 in
theorem c_X8_erases {l : Launch} {D : va_G} {cy : Nat → ClassId} {h : Nat → Nat} {N : Nat} {σ : Wd} {a0 : Int32} {r : Int32} {σ1 : Wd} (hW : WF (wsM cy h) (adM h)) (hr : f_X8_erases N σ a0 = some (r, σ1)) : Con l D cy (wsM cy h) (adM h) yX8_erases wsX8_erases rm_X8_erases 0 0 [.ref (h 0), .int a0] (some (.int r)) σ σ1 := by
  refine Con.of (ρ := Int32 × Wd) (lv0 := [(0, .ref (h 0)), (1, .int a0)]) (σ := σ) (fun r : Int32 × Wd => some (.int r.1)) (fun r => r.2) (by decide) rfl rfl (Nat.le_of_ble_eq_true rfl) rfl hW hr (fun p e s m args below meth c E => ?_)
  unfold f_X8_erases
  refine G.iconst (v := 0) E dX8_erases_0 (by decide) ?_
  refine G.istore_n (lv' := [(2, .int 0), (0, .ref (h 0)), (1, .int a0)]) E dX8_erases_1 rfl (by decide) rfl ?_
  refine G.iconst (v := 0) E dX8_erases_2 (by decide) ?_
  refine G.istore_n (lv' := [(3, .int 0), (2, .int 0), (0, .ref (h 0)), (1, .int a0)]) E dX8_erases_3 rfl (by decide) rfl ?_
  refine G.loc [2, 3, 1, 0] rfl ?_
  refine gl_X8_erases_4 E (fun _ => ?_) N _
  refine G.iconst (v := 0) E dX8_erases_42 (by decide) ?_
  refine G.istore_n (lv' := [(3, .int 0), (0, .ref (h 0)), (1, .int a0), (2, .int 0)]) E dX8_erases_43 rfl (by decide) rfl ?_
  refine G.loc [1, 2, 3, 0] rfl ?_
  refine gl_X8_erases_44 E (fun v9 s10 => ?_) N _ _ _
  refine G.iload_n E dX8_erases_104 0 rfl rfl ?_
  exact G.iret E dX8_erases_105 rfl rfl
set_option maxHeartbeats 4000000 in
set_option maxRecDepth 100000 in
theorem iw_X8_erased_8 : ∀ w ∈ u_ws RX8 TX8 21, w ∈ wsX8_erased := fun _ h => List.mem_cons_of_mem _ (List.mem_append_right _ h)
abbrev rm_X8_erased : Room := { frames := 3, cells := 0, slots := 0, locals := 70 }
noncomputable def fl_X8_erased_27 {ρ : Type} (N : Nat) (K : Int32 → Int32 → Wd → Option ρ) : Nat → Int32 → Int32 → Int32 → Wd → Option ρ
  | 0, _, _, _, _ => none
  | n + 1, x2, x3, x4, s0 =>
    if x4 ≤ 0 then (
      K x2 x3 s0)
    else (
      mI x4 10 fun v3 =>
      lI (v3 - 1) fun v4 =>
      jn (fun (v5 : Int32) => ((
        jn (fun (v6 : Int32) => ((
          wI s0 0 0 v6 fun s7 =>
          aI s7 10 10 x2 v4 fun s8 =>
          dI x4 10 fun v9 =>
          fl_X8_erased_27 N K n (x2 + 1) v5 v9 s8) : Option (ρ))) fun j81 =>
        jn (fun (_u : Unit) => ((
          gI s0 0 0 fun v10 =>
          j81 v10) : Option (ρ))) fun j77 =>
        if v4 = (-1) then (
          j77 ())
        else (
          bP (f_X8_isNode N s0 v4) fun v11 =>
          if v11 = 0 then (
            j81 1)
          else (
            j77 ()))) : Option (ρ))) fun j56 =>
      jn (fun (_u : Unit) => ((
        j56 1) : Option (ρ))) fun j51 =>
      if x3 = 0 then (
        if v4 = (-1) then (
          j51 ())
        else (
          j56 0))
      else (
        j51 ()))
set_option maxHeartbeats 4000000 in
set_option maxRecDepth 100000 in
theorem gl_X8_erased_27 {ρ : Type} {Q : ρ → State → Prop} {N : Nat} {K : Int32 → Int32 → Wd → Option ρ} (E : EV p s m args meth c cX8_erased 7 RX8 wsX8_erased (some .int) D cy (wsM cy h) (adM h)) (hK : ∀ (x2' : Int32) (x3' : Int32) (s' : Wd), G p l e (headSpec wsX8_erased rm_X8_erased).room s m args below meth c 7 0 0 D (wsM cy h) (adM h) Q 105 [(0, .ref (h 0)), (2, .int (x2')), (3, .int (x3'))] [] s' (K x2' x3' s')) :
  ∀ (n : Nat) (x2 : Int32) (x3 : Int32) (x4 : Int32) (s0 : Wd), G p l e (headSpec wsX8_erased rm_X8_erased).room s m args below meth c 7 0 0 D (wsM cy h) (adM h) Q 27 [(0, .ref (h 0)), (2, .int x2), (3, .int x3), (4, .int x4)] [] s0 (fl_X8_erased_27 N K n x2 x3 x4 s0) := by
  intro n
  induction n with
  | zero => intros; exact G.no
  | succ n ih =>
    intro x2 x3 x4 s0
    rw [fl_X8_erased_27]
    refine G.iload E dX8_erased_27 3 rfl ?_
    refine G.if_le (tgt := 105) E dX8_erased_29 (by decide) ?_ ?_
    · refine G.loc [0, 1, 2] rfl ?_
      exact hK x2 x3 s0
    · refine G.iload E dX8_erased_32 3 rfl ?_
      refine G.bipush (v := 10) E dX8_erased_34 (by decide) ?_
      refine G.irem E dX8_erased_36 (fun v3 => ?_)
      refine G.iconst (v := 1) E dX8_erased_37 (by decide) ?_
      refine G.isub E dX8_erased_38 ?_
      refine G.letI (fun v4 => ?_)
      refine G.istore (lv' := [(5, .int v4), (0, .ref (h 0)), (2, .int x2), (3, .int x3), (4, .int x4)]) E dX8_erased_39 (by decide) rfl ?_
      refine G.iload_n E dX8_erased_41 3 rfl rfl ?_
      refine G.jn (P := fun j => ∀ (v5 : Int32), G p l e (headSpec wsX8_erased rm_X8_erased).room s m args below meth c 7 0 0 D (wsM cy h) (adM h) Q 56 [(0, .ref (h 0)), (2, .int x2), (4, .int x4), (5, .int v4)] [.int v5] s0 (j v5)) ?_ (fun j56 hj56 => ?_)
      · intro v5
        refine G.istore_n (lv' := [(3, .int v5), (0, .ref (h 0)), (2, .int x2), (4, .int x4), (5, .int v4)]) E dX8_erased_56 rfl (by decide) rfl ?_
        refine G.aload_n E dX8_erased_57 1 rfl rfl ?_
        refine G.iload E dX8_erased_58 4 rfl ?_
        refine G.iconst (v := (-1)) E dX8_erased_60 (by decide) ?_
        refine G.jn (P := fun j => ∀ (v6 : Int32), G p l e (headSpec wsX8_erased rm_X8_erased).room s m args below meth c 7 0 0 D (wsM cy h) (adM h) Q 81 [(0, .ref (h 0)), (2, .int x2), (3, .int v5), (4, .int x4), (5, .int v4)] [.int v6, .ref (h 0)] s0 (j v6)) ?_ (fun j81 hj81 => ?_)
        · intro v6
          refine G.putI (T := TX8) (N := 21) (C := RX8) (q0 := 0) (i := 0) (ty := .int) E dX8_erased_81 iw_X8_erased_8 tyX8 tyX8_ok nmX8 (wsM_at0 _ _ _) rfl (by decide) (List.mem_of_getElem? (i := 2) rfl) rfl (by decide +kernel) rfl rfl (Nat.le_of_ble_eq_true rfl) (wsM_set0_0 _ _ _ _) (fun s7 => ?_)
          refine G.aload_n E dX8_erased_84 0 rfl rfl ?_
          refine G.getR (T := TX8) (N := 21) (C := RX8) (q0 := 0) (i := 18) E dX8_erased_85 iw_X8_erased_8 (wsM_at0 _ _ _) rfl (by decide) rfl (List.mem_of_getElem? (i := 3) rfl) ?_
          refine G.iload_n E dX8_erased_88 1 rfl rfl ?_
          refine G.iload E dX8_erased_89 4 rfl ?_
          refine G.iast (q0 := 10) E dX8_erased_91 (wsM_at10 _ _ _) (fun j => wsM_set10 _ _ _ _ j) (fun s8 => ?_)
          refine G.iinc (v := x2 + 1) (lv' := [(2, .int (x2 + 1)), (0, .ref (h 0)), (3, .int v5), (4, .int x4), (5, .int v4)]) E dX8_erased_92 1 rfl rfl (by decide) rfl ?_
          refine G.iload E dX8_erased_95 3 rfl ?_
          refine G.bipush (v := 10) E dX8_erased_97 (by decide) ?_
          refine G.idiv E dX8_erased_99 (fun v9 => ?_)
          refine G.istore (lv' := [(4, .int v9), (2, .int (x2 + 1)), (0, .ref (h 0)), (3, .int v5), (5, .int v4)]) E dX8_erased_100 (by decide) rfl ?_
          refine G.goto (tgt := 27) E dX8_erased_102 (by decide) ?_
          refine G.loc [2, 1, 3, 0] rfl ?_
          exact ih (x2 + 1) v5 v9 s8
        · refine G.jn (P := fun j => ∀ (_u : Unit), G p l e (headSpec wsX8_erased rm_X8_erased).room s m args below meth c 7 0 0 D (wsM cy h) (adM h) Q 77 [(0, .ref (h 0)), (2, .int x2), (3, .int v5), (4, .int x4), (5, .int v4)] [.ref (h 0)] s0 (j _u)) ?_ (fun j77 hj77 => ?_)
          · intro _u
            refine G.aload_n E dX8_erased_77 0 rfl rfl ?_
            refine G.getI (T := TX8) (N := 21) (C := RX8) (q0 := 0) (i := 0) E dX8_erased_78 iw_X8_erased_8 (wsM_at0 _ _ _) rfl (by decide) rfl (List.mem_of_getElem? (i := 2) rfl) (fun v10 => ?_)
            refine G.loc [0, 1, 2, 3, 4] rfl ?_
            exact hj81 v10
          · refine G.icmp_eq (tgt := 77) E dX8_erased_61 (by decide) ?_ ?_
            · refine G.loc [1, 2, 0, 3, 4] rfl ?_
              exact hj77 ()
            · refine G.aload_n E dX8_erased_64 1 rfl rfl ?_
              refine G.iload E dX8_erased_65 4 rfl ?_
              refine G.callVi (n := 1) (T := TX8) (N := 21) (C := RX8) (a := h 0) (q0 := 0) (As := [.int v4]) E dX8_erased_67 (fun _ hv => c_X8_isNode E.wf hv) gX8_erased_X8_isNode rfl rfl rfl (by decide +kernel) ⟨Nat.le_of_ble_eq_true rfl, Nat.le_of_ble_eq_true rfl⟩ (wsM_at0 _ _ _) rfl rfl (Nat.le_of_ble_eq_true rfl) ⟨Nat.le_of_ble_eq_true rfl, Nat.le_of_ble_eq_true rfl⟩ (fun v11 => ?_)
              refine G.if_ne (tgt := 77) E dX8_erased_70 (by decide) ?_ ?_
              · refine G.iconst (v := 1) E dX8_erased_73 (by decide) ?_
                refine G.goto (tgt := 81) E dX8_erased_74 (by decide) ?_
                refine G.loc [1, 2, 0, 3, 4] rfl ?_
                exact hj81 1
              · refine G.loc [1, 2, 0, 3, 4] rfl ?_
                exact hj77 ()
      · refine G.jn (P := fun j => ∀ (_u : Unit), G p l e (headSpec wsX8_erased rm_X8_erased).room s m args below meth c 7 0 0 D (wsM cy h) (adM h) Q 51 [(0, .ref (h 0)), (2, .int x2), (4, .int x4), (5, .int v4)] [] s0 (j _u)) ?_ (fun j51 hj51 => ?_)
        · intro _u
          refine G.iconst (v := 1) E dX8_erased_51 (by decide) ?_
          refine G.goto (tgt := 56) E dX8_erased_52 (by decide) ?_
          refine G.loc [0, 1, 2, 3] rfl ?_
          exact hj56 1
        · refine G.if_ne (tgt := 51) E dX8_erased_42 (by decide) ?_ ?_
          · refine G.iload E dX8_erased_45 0 rfl ?_
            refine G.iconst (v := (-1)) E dX8_erased_47 (by decide) ?_
            refine G.icmp_ne (tgt := 55) E dX8_erased_48 (by decide) ?_ ?_
            · refine G.loc [1, 2, 4, 0] rfl ?_
              exact hj51 ()
            · refine G.iconst (v := 0) E dX8_erased_55 (by decide) ?_
              refine G.loc [1, 2, 4, 0] rfl ?_
              exact hj56 0
          · refine G.loc [1, 2, 4, 0] rfl ?_
            exact hj51 ()
noncomputable def fl_X8_erased_140 {ρ : Type} (N : Nat) (x2 : Int32) (K : Wd → Option ρ) : Nat → Int32 → Wd → Option ρ
  | 0, _, _ => none
  | n + 1, x4, s0 =>
    dI x2 2 fun v19 =>
    if v19 ≤ x4 then (
      K s0)
    else (
      rI s0 10 10 x4 fun v20 =>
      rI s0 10 10 ((x2 - 1) - x4) fun v21 =>
      aI s0 10 10 x4 v21 fun s22 =>
      aI s22 10 10 ((x2 - 1) - x4) v20 fun s23 =>
      fl_X8_erased_140 N x2 K n (x4 + 1) s23)
set_option maxHeartbeats 4000000 in
set_option maxRecDepth 100000 in
theorem gl_X8_erased_140 {ρ : Type} {Q : ρ → State → Prop} {N : Nat} {x2 : Int32} {K : Wd → Option ρ} (E : EV p s m args meth c cX8_erased 7 RX8 wsX8_erased (some .int) D cy (wsM cy h) (adM h)) (hK : ∀ (s' : Wd), G p l e (headSpec wsX8_erased rm_X8_erased).room s m args below meth c 7 0 0 D (wsM cy h) (adM h) Q 194 [(0, .ref (h 0)), (2, .int x2)] [] s' (K s')) :
  ∀ (n : Nat) (x4 : Int32) (s0 : Wd), G p l e (headSpec wsX8_erased rm_X8_erased).room s m args below meth c 7 0 0 D (wsM cy h) (adM h) Q 140 [(0, .ref (h 0)), (2, .int x2), (4, .int x4)] [] s0 (fl_X8_erased_140 N x2 K n x4 s0) := by
  intro n
  induction n with
  | zero => intros; exact G.no
  | succ n ih =>
    intro x4 s0
    rw [fl_X8_erased_140]
    refine G.iload E dX8_erased_140 2 rfl ?_
    refine G.iload_n E dX8_erased_142 1 rfl rfl ?_
    refine G.iconst (v := 2) E dX8_erased_143 (by decide) ?_
    refine G.idiv E dX8_erased_144 (fun v19 => ?_)
    refine G.icmp_ge (tgt := 194) E dX8_erased_145 (by decide) ?_ ?_
    · refine G.loc [0, 1] rfl ?_
      exact hK s0
    · refine G.aload_n E dX8_erased_148 0 rfl rfl ?_
      refine G.getR (T := TX8) (N := 21) (C := RX8) (q0 := 0) (i := 18) E dX8_erased_149 iw_X8_erased_8 (wsM_at0 _ _ _) rfl (by decide) rfl (List.mem_of_getElem? (i := 3) rfl) ?_
      refine G.iload E dX8_erased_152 2 rfl ?_
      refine G.iald (q0 := 10) E dX8_erased_154 (wsM_at10 _ _ _) (fun v20 => ?_)
      refine G.istore (lv' := [(5, .int v20), (0, .ref (h 0)), (2, .int x2), (4, .int x4)]) E dX8_erased_155 (by decide) rfl ?_
      refine G.aload_n E dX8_erased_157 1 rfl rfl ?_
      refine G.getR (T := TX8) (N := 21) (C := RX8) (q0 := 0) (i := 18) E dX8_erased_158 iw_X8_erased_8 (wsM_at0 _ _ _) rfl (by decide) rfl (List.mem_of_getElem? (i := 3) rfl) ?_
      refine G.iload E dX8_erased_161 3 rfl ?_
      refine G.aload_n E dX8_erased_163 1 rfl rfl ?_
      refine G.getR (T := TX8) (N := 21) (C := RX8) (q0 := 0) (i := 18) E dX8_erased_164 iw_X8_erased_8 (wsM_at0 _ _ _) rfl (by decide) rfl (List.mem_of_getElem? (i := 3) rfl) ?_
      refine G.iload_n E dX8_erased_167 2 rfl rfl ?_
      refine G.iconst (v := 1) E dX8_erased_168 (by decide) ?_
      refine G.isub E dX8_erased_169 ?_
      refine G.iload E dX8_erased_170 3 rfl ?_
      refine G.isub E dX8_erased_172 ?_
      refine G.iald (q0 := 10) E dX8_erased_173 (wsM_at10 _ _ _) (fun v21 => ?_)
      refine G.iast (q0 := 10) E dX8_erased_174 (wsM_at10 _ _ _) (fun j => wsM_set10 _ _ _ _ j) (fun s22 => ?_)
      refine G.aload_n E dX8_erased_175 1 rfl rfl ?_
      refine G.getR (T := TX8) (N := 21) (C := RX8) (q0 := 0) (i := 18) E dX8_erased_176 iw_X8_erased_8 (wsM_at0 _ _ _) rfl (by decide) rfl (List.mem_of_getElem? (i := 3) rfl) ?_
      refine G.iload_n E dX8_erased_179 2 rfl rfl ?_
      refine G.iconst (v := 1) E dX8_erased_180 (by decide) ?_
      refine G.isub E dX8_erased_181 ?_
      refine G.iload E dX8_erased_182 3 rfl ?_
      refine G.isub E dX8_erased_184 ?_
      refine G.iload E dX8_erased_185 0 rfl ?_
      refine G.iast (q0 := 10) E dX8_erased_187 (wsM_at10 _ _ _) (fun j => wsM_set10 _ _ _ _ j) (fun s23 => ?_)
      refine G.iinc (v := x4 + 1) (lv' := [(4, .int (x4 + 1)), (5, .int v20), (0, .ref (h 0)), (2, .int x2)]) E dX8_erased_188 3 rfl rfl (by decide) rfl ?_
      refine G.goto (tgt := 140) E dX8_erased_191 (by decide) ?_
      refine G.loc [2, 3, 0] rfl ?_
      exact ih (x4 + 1) s23
noncomputable def fl_X8_erased_207 {ρ : Type} (N : Nat) (σ : Wd) (x4 : Int32) (K : Int32 → Option ρ) : Nat → Int32 → Int32 → Option ρ
  | 0, _, _ => none
  | n + 1, x5, x6 =>
    if x4 ≤ x6 then (
      K x5)
    else (
      rI σ 10 10 x6 fun v27 =>
      lI (((10 * x5) + v27) + 1) fun v28 =>
      fl_X8_erased_207 N σ x4 K n v28 (x6 + 1))
set_option maxHeartbeats 4000000 in
set_option maxRecDepth 100000 in
theorem gl_X8_erased_207 {ρ : Type} {Q : ρ → State → Prop} {N : Nat} {σ : Wd} {x4 : Int32} {K : Int32 → Option ρ} (E : EV p s m args meth c cX8_erased 7 RX8 wsX8_erased (some .int) D cy (wsM cy h) (adM h)) (hK : ∀ (x5' : Int32), G p l e (headSpec wsX8_erased rm_X8_erased).room s m args below meth c 7 0 0 D (wsM cy h) (adM h) Q 237 [(4, .int x4), (5, .int (x5'))] [] σ (K x5')) :
  ∀ (n : Nat) (x5 : Int32) (x6 : Int32), G p l e (headSpec wsX8_erased rm_X8_erased).room s m args below meth c 7 0 0 D (wsM cy h) (adM h) Q 207 [(0, .ref (h 0)), (4, .int x4), (5, .int x5), (6, .int x6)] [] σ (fl_X8_erased_207 N σ x4 K n x5 x6) := by
  intro n
  induction n with
  | zero => intros; exact G.no
  | succ n ih =>
    intro x5 x6
    rw [fl_X8_erased_207]
    refine G.iload E dX8_erased_207 3 rfl ?_
    refine G.iload E dX8_erased_209 1 rfl ?_
    refine G.icmp_ge (tgt := 237) E dX8_erased_211 (by decide) ?_ ?_
    · refine G.loc [1, 2] rfl ?_
      exact hK x5
    · refine G.bipush (v := 10) E dX8_erased_214 (by decide) ?_
      refine G.iload E dX8_erased_216 2 rfl ?_
      refine G.imul E dX8_erased_218 ?_
      refine G.aload_n E dX8_erased_219 0 rfl rfl ?_
      refine G.getR (T := TX8) (N := 21) (C := RX8) (q0 := 0) (i := 18) E dX8_erased_220 iw_X8_erased_8 (wsM_at0 _ _ _) rfl (by decide) rfl (List.mem_of_getElem? (i := 3) rfl) ?_
      refine G.iload E dX8_erased_223 3 rfl ?_
      refine G.iald (q0 := 10) E dX8_erased_225 (wsM_at10 _ _ _) (fun v27 => ?_)
      refine G.iadd E dX8_erased_226 ?_
      refine G.iconst (v := 1) E dX8_erased_227 (by decide) ?_
      refine G.iadd E dX8_erased_228 ?_
      refine G.letI (fun v28 => ?_)
      refine G.istore (lv' := [(5, .int v28), (0, .ref (h 0)), (4, .int x4), (6, .int x6)]) E dX8_erased_229 (by decide) rfl ?_
      refine G.iinc (v := x6 + 1) (lv' := [(6, .int (x6 + 1)), (5, .int v28), (0, .ref (h 0)), (4, .int x4)]) E dX8_erased_231 3 rfl rfl (by decide) rfl ?_
      refine G.goto (tgt := 207) E dX8_erased_234 (by decide) ?_
      refine G.loc [2, 3, 1, 0] rfl ?_
      exact ih v28 (x6 + 1)
noncomputable def f_X8_erased (N : Nat) (σ : Wd) (a0 : Int32) : Option (Int32 × Wd) :=
  jn (fun (v1 : Int32) => ((
    wI σ 0 0 0 fun s2 =>
    fl_X8_erased_27 N (fun v12 v13 s14 =>
      gI s14 0 0 fun v15 =>
      jn (fun (v16 : Int32) => ((
        wI s14 0 0 v16 fun s17 =>
        gI s17 0 0 fun v18 =>
        if v18 ≤ 0 then (
          fl_X8_erased_140 N v12 (fun s24 =>
            bS (f_X8_erases N s24 v12) fun v25 s26 =>
            fl_X8_erased_207 N s26 v25 (fun v29 =>
              if v25 = (-1) then (
                some ((-1), s26))
              else (
                some (v29, s26))) N 0 0) N 0 s17)
        else (
          some (0, s17))) : Option (Int32 × Wd))) fun j125 =>
      jn (fun (_u : Unit) => ((
        gI s14 0 0 fun v30 =>
        j125 v30) : Option (Int32 × Wd))) fun j121 =>
      if v15 = 0 then (
        if v13 = 0 then (
          j121 ())
        else (
          j125 2))
      else (
        j121 ())) N 0 v1 a0 s2) : Option (Int32 × Wd))) fun j18 =>
  jn (fun (_u : Unit) => ((
    j18 1) : Option (Int32 × Wd))) fun j13 =>
  if a0 < 1 then (
    j13 ())
  else (
    if a0 ≤ 999999999 then (
      j18 0)
    else (
      j13 ()))
set_option maxHeartbeats 4000000 in
set_option maxRecDepth 100000 in
theorem c_X8_erased {l : Launch} {D : va_G} {cy : Nat → ClassId} {h : Nat → Nat} {N : Nat} {σ : Wd} {a0 : Int32} {r : Int32} {σ1 : Wd} (hW : WF (wsM cy h) (adM h)) (hr : f_X8_erased N σ a0 = some (r, σ1)) : Con l D cy (wsM cy h) (adM h) yX8_erased wsX8_erased rm_X8_erased 0 0 [.ref (h 0), .int a0] (some (.int r)) σ σ1 := by
  refine Con.of (ρ := Int32 × Wd) (lv0 := [(0, .ref (h 0)), (1, .int a0)]) (σ := σ) (fun r : Int32 × Wd => some (.int r.1)) (fun r => r.2) (by decide) rfl rfl (Nat.le_of_ble_eq_true rfl) rfl hW hr (fun p e s m args below meth c E => ?_)
  unfold f_X8_erased
  refine G.iconst (v := 0) E dX8_erased_0 (by decide) ?_
  refine G.istore_n (lv' := [(2, .int 0), (0, .ref (h 0)), (1, .int a0)]) E dX8_erased_1 rfl (by decide) rfl ?_
  refine G.iload_n E dX8_erased_2 2 rfl rfl ?_
  refine G.iconst (v := 1) E dX8_erased_3 (by decide) ?_
  refine G.jn (P := fun j => ∀ (v1 : Int32), G p l e (headSpec wsX8_erased rm_X8_erased).room s m args below meth c 7 0 0 D (wsM cy h) (adM h) (QM D (wsM cy h) (adM h) below args s 0 0 (fun r : Int32 × Wd => some (.int r.1)) (fun r => r.2)) 18 [(0, .ref (h 0)), (1, .int a0), (2, .int 0)] [.int v1] σ (j v1)) ?_ (fun j18 hj18 => ?_)
  · intro v1
    refine G.istore_n (lv' := [(3, .int v1), (0, .ref (h 0)), (1, .int a0), (2, .int 0)]) E dX8_erased_18 rfl (by decide) rfl ?_
    refine G.aload_n E dX8_erased_19 1 rfl rfl ?_
    refine G.iconst (v := 0) E dX8_erased_20 (by decide) ?_
    refine G.putI (T := TX8) (N := 21) (C := RX8) (q0 := 0) (i := 0) (ty := .int) E dX8_erased_21 iw_X8_erased_8 tyX8 tyX8_ok nmX8 (wsM_at0 _ _ _) rfl (by decide) (List.mem_of_getElem? (i := 2) rfl) rfl (by decide +kernel) rfl rfl (Nat.le_of_ble_eq_true rfl) (wsM_set0_0 _ _ _ _) (fun s2 => ?_)
    refine G.iload_n E dX8_erased_24 2 rfl rfl ?_
    refine G.istore (lv' := [(4, .int a0), (3, .int v1), (0, .ref (h 0)), (1, .int a0), (2, .int 0)]) E dX8_erased_25 (by decide) rfl ?_
    refine G.loc [2, 4, 1, 0] rfl ?_
    refine gl_X8_erased_27 E (fun v12 v13 s14 => ?_) N _ _ _ _
    refine G.aload_n E dX8_erased_105 0 rfl rfl ?_
    refine G.aload_n E dX8_erased_106 0 rfl rfl ?_
    refine G.getI (T := TX8) (N := 21) (C := RX8) (q0 := 0) (i := 0) E dX8_erased_107 iw_X8_erased_8 (wsM_at0 _ _ _) rfl (by decide) rfl (List.mem_of_getElem? (i := 2) rfl) (fun v15 => ?_)
    refine G.jn (P := fun j => ∀ (v16 : Int32), G p l e (headSpec wsX8_erased rm_X8_erased).room s m args below meth c 7 0 0 D (wsM cy h) (adM h) (QM D (wsM cy h) (adM h) below args s 0 0 (fun r : Int32 × Wd => some (.int r.1)) (fun r => r.2)) 125 [(0, .ref (h 0)), (2, .int v12)] [.int v16, .ref (h 0)] s14 (j v16)) ?_ (fun j125 hj125 => ?_)
    · intro v16
      refine G.putI (T := TX8) (N := 21) (C := RX8) (q0 := 0) (i := 0) (ty := .int) E dX8_erased_125 iw_X8_erased_8 tyX8 tyX8_ok nmX8 (wsM_at0 _ _ _) rfl (by decide) (List.mem_of_getElem? (i := 2) rfl) rfl (by decide +kernel) rfl rfl (Nat.le_of_ble_eq_true rfl) (wsM_set0_0 _ _ _ _) (fun s17 => ?_)
      refine G.aload_n E dX8_erased_128 0 rfl rfl ?_
      refine G.getI (T := TX8) (N := 21) (C := RX8) (q0 := 0) (i := 0) E dX8_erased_129 iw_X8_erased_8 (wsM_at0 _ _ _) rfl (by decide) rfl (List.mem_of_getElem? (i := 2) rfl) (fun v18 => ?_)
      refine G.if_le (tgt := 137) E dX8_erased_132 (by decide) ?_ ?_
      · refine G.iconst (v := 0) E dX8_erased_137 (by decide) ?_
        refine G.istore (lv' := [(4, .int 0), (0, .ref (h 0)), (2, .int v12)]) E dX8_erased_138 (by decide) rfl ?_
        refine G.loc [1, 2, 0] rfl ?_
        refine gl_X8_erased_140 E (fun s24 => ?_) N _ _
        refine G.aload_n E dX8_erased_194 0 rfl rfl ?_
        refine G.iload_n E dX8_erased_195 1 rfl rfl ?_
        refine G.callVis (n := 1) (T := TX8) (N := 21) (C := RX8) (a := h 0) (q0 := 0) (As := [.int v12]) E dX8_erased_196 (fun _ _ hv => c_X8_erases E.wf hv) gX8_erased_X8_erases rfl rfl rfl (by decide +kernel) ⟨Nat.le_of_ble_eq_true rfl, Nat.le_of_ble_eq_true rfl⟩ (wsM_at0 _ _ _) rfl rfl (Nat.le_of_ble_eq_true rfl) ⟨Nat.le_of_ble_eq_true rfl, Nat.le_of_ble_eq_true rfl⟩ (fun v25 s26 => ?_)
        refine G.istore (lv' := [(4, .int v25), (0, .ref (h 0)), (2, .int v12)]) E dX8_erased_199 (by decide) rfl ?_
        refine G.iconst (v := 0) E dX8_erased_201 (by decide) ?_
        refine G.istore (lv' := [(5, .int 0), (4, .int v25), (0, .ref (h 0)), (2, .int v12)]) E dX8_erased_202 (by decide) rfl ?_
        refine G.iconst (v := 0) E dX8_erased_204 (by decide) ?_
        refine G.istore (lv' := [(6, .int 0), (5, .int 0), (4, .int v25), (0, .ref (h 0)), (2, .int v12)]) E dX8_erased_205 (by decide) rfl ?_
        refine G.loc [3, 2, 1, 0] rfl ?_
        refine gl_X8_erased_207 E (fun v29 => ?_) N _ _
        refine G.iload E dX8_erased_237 0 rfl ?_
        refine G.iconst (v := (-1)) E dX8_erased_239 (by decide) ?_
        refine G.icmp_ne (tgt := 247) E dX8_erased_240 (by decide) ?_ ?_
        · refine G.iconst (v := (-1)) E dX8_erased_243 (by decide) ?_
          refine G.goto (tgt := 249) E dX8_erased_244 (by decide) ?_
          exact G.iret E dX8_erased_249 rfl rfl
        · refine G.iload E dX8_erased_247 1 rfl ?_
          exact G.iret E dX8_erased_249 rfl rfl
      · refine G.iconst (v := 0) E dX8_erased_135 (by decide) ?_
        exact G.iret E dX8_erased_136 rfl rfl
    · refine G.jn (P := fun j => ∀ (_u : Unit), G p l e (headSpec wsX8_erased rm_X8_erased).room s m args below meth c 7 0 0 D (wsM cy h) (adM h) (QM D (wsM cy h) (adM h) below args s 0 0 (fun r : Int32 × Wd => some (.int r.1)) (fun r => r.2)) 121 [(0, .ref (h 0)), (2, .int v12)] [.ref (h 0)] s14 (j _u)) ?_ (fun j121 hj121 => ?_)
      · intro _u
        refine G.aload_n E dX8_erased_121 0 rfl rfl ?_
        refine G.getI (T := TX8) (N := 21) (C := RX8) (q0 := 0) (i := 0) E dX8_erased_122 iw_X8_erased_8 (wsM_at0 _ _ _) rfl (by decide) rfl (List.mem_of_getElem? (i := 2) rfl) (fun v30 => ?_)
        refine G.loc [0, 1] rfl ?_
        exact hj125 v30
      · refine G.if_ne (tgt := 121) E dX8_erased_110 (by decide) ?_ ?_
        · refine G.iload_n E dX8_erased_113 2 rfl rfl ?_
          refine G.if_eq (tgt := 121) E dX8_erased_114 (by decide) ?_ ?_
          · refine G.loc [0, 1] rfl ?_
            exact hj121 ()
          · refine G.iconst (v := 2) E dX8_erased_117 (by decide) ?_
            refine G.goto (tgt := 125) E dX8_erased_118 (by decide) ?_
            refine G.loc [0, 1] rfl ?_
            exact hj125 2
        · refine G.loc [0, 1] rfl ?_
          exact hj121 ()
  · refine G.jn (P := fun j => ∀ (_u : Unit), G p l e (headSpec wsX8_erased rm_X8_erased).room s m args below meth c 7 0 0 D (wsM cy h) (adM h) (QM D (wsM cy h) (adM h) below args s 0 0 (fun r : Int32 × Wd => some (.int r.1)) (fun r => r.2)) 13 [(0, .ref (h 0)), (1, .int a0), (2, .int 0)] [] σ (j _u)) ?_ (fun j13 hj13 => ?_)
    · intro _u
      refine G.iconst (v := 1) E dX8_erased_13 (by decide) ?_
      refine G.goto (tgt := 18) E dX8_erased_14 (by decide) ?_
      refine G.loc [0, 1, 2] rfl ?_
      exact hj18 1
    · refine G.icmp_lt (tgt := 13) E dX8_erased_4 (by decide) ?_ ?_
      · refine G.loc [1, 2, 0] rfl ?_
        exact hj13 ()
      · refine G.iload_n E dX8_erased_7 2 rfl rfl ?_
        refine G.ldc (v := 999999999) E dX8_erased_8 (List.mem_of_getElem? (i := 1) rfl) ?_
        refine G.icmp_le (tgt := 17) E dX8_erased_10 (by decide) ?_ ?_
        · refine G.iconst (v := 0) E dX8_erased_17 (by decide) ?_
          refine G.loc [1, 2, 0] rfl ?_
          exact hj18 0
        · refine G.loc [1, 2, 0] rfl ?_
          exact hj13 ()
abbrev rm_X8_isOfWire : Room := { frames := 0, cells := 0, slots := 0, locals := 0 }
noncomputable def f_X8_isOfWire (N : Nat) (a0 : Int32) : Option (Int32) :=
  if a0 = 0 then (
    some 1)
  else (
    if a0 = 1 then (
      some 1)
    else (
      if a0 = 5 then (
        some 1)
      else (
        some 0)))
set_option maxHeartbeats 4000000 in
set_option maxRecDepth 100000 in
theorem c_X8_isOfWire {l : Launch} {D : va_G} {cy : Nat → ClassId} {h : Nat → Nat} {N : Nat} {σ : Wd} {a0 : Int32} {r : Int32} (hW : WF (wsM cy h) (adM h)) (hr : f_X8_isOfWire N a0 = some r) : Con l D cy (wsM cy h) (adM h) yX8_isOfWire wsX8_isOfWire rm_X8_isOfWire 0 0 [.int a0] (some (.int r)) σ σ := by
  refine Con.of (ρ := Int32) (lv0 := [(0, .int a0)]) (σ := σ) (fun r : Int32 => some (.int r)) (fun _ => σ) (by decide) rfl rfl (Nat.le_of_ble_eq_true rfl) rfl hW hr (fun p e s m args below meth c E => ?_)
  unfold f_X8_isOfWire
  refine G.iload_n E dX8_isOfWire_0 0 rfl rfl ?_
  refine G.if_eq (tgt := 14) E dX8_isOfWire_1 (by decide) ?_ ?_
  · refine G.iconst (v := 1) E dX8_isOfWire_14 (by decide) ?_
    refine G.goto (tgt := 19) E dX8_isOfWire_15 (by decide) ?_
    exact G.zretc E dX8_isOfWire_19 rfl rfl rfl
  · refine G.iload_n E dX8_isOfWire_4 0 rfl rfl ?_
    refine G.iconst (v := 1) E dX8_isOfWire_5 (by decide) ?_
    refine G.icmp_eq (tgt := 14) E dX8_isOfWire_6 (by decide) ?_ ?_
    · refine G.iconst (v := 1) E dX8_isOfWire_14 (by decide) ?_
      refine G.goto (tgt := 19) E dX8_isOfWire_15 (by decide) ?_
      exact G.zretc E dX8_isOfWire_19 rfl rfl rfl
    · refine G.iload_n E dX8_isOfWire_9 0 rfl rfl ?_
      refine G.iconst (v := 5) E dX8_isOfWire_10 (by decide) ?_
      refine G.icmp_ne (tgt := 18) E dX8_isOfWire_11 (by decide) ?_ ?_
      · refine G.iconst (v := 1) E dX8_isOfWire_14 (by decide) ?_
        refine G.goto (tgt := 19) E dX8_isOfWire_15 (by decide) ?_
        exact G.zretc E dX8_isOfWire_19 rfl rfl rfl
      · refine G.iconst (v := 0) E dX8_isOfWire_18 (by decide) ?_
        exact G.zretc E dX8_isOfWire_19 rfl rfl rfl
set_option maxHeartbeats 4000000 in
set_option maxRecDepth 100000 in
theorem iw_X8_isPossible_8 : ∀ w ∈ u_ws RX8 TX8 21, w ∈ wsX8_isPossible := fun _ h => List.mem_cons_of_mem _ (List.mem_append_right _ h)
abbrev rm_X8_isPossible : Room := { frames := 4, cells := 0, slots := 0, locals := 95 }
noncomputable def f_X8_isPossible (N : Nat) (σ : Wd) (a0 : Int32) (a1 : Int32) : Option (Int32 × Wd) :=
  if a0 = 0 then (
    rI σ 1 20 a1 fun v1 =>
    rI σ 2 20 a1 fun v2 =>
    if v1 = v2 then (
      some (1, σ))
    else (
      some (0, σ)))
  else if a0 = 1 then (
    bP (f_X8_alike N σ a1) fun v3 =>
    if v3 = (-1) then (
      some (0, σ))
    else (
      rI σ 3 20 a1 fun v4 =>
      bP (f_X8_alike N σ a1) fun v5 =>
      rI σ 3 20 v5 fun v6 =>
      if 60 < (v4 + v6) then (
        some (0, σ))
      else (
        some (1, σ))))
  else if a0 = 2 then (
    bS (f_X8_isInner N σ a1 1) fun v7 s8 =>
    zb v7 (some (v7, s8)))
  else if a0 = 3 then (
    bS (f_X8_canSeries N σ a1) fun v9 s10 =>
    zb v9 (some (v9, s10)))
  else if a0 = 4 then (
    bS (f_X8_canTriangle N σ a1) fun v11 s12 =>
    zb v11 (some (v11, s12)))
  else (
    bS (f_X8_canStar N σ a1) fun v13 s14 =>
    zb v13 (some (v13, s14)))
set_option maxHeartbeats 4000000 in
set_option maxRecDepth 100000 in
theorem c_X8_isPossible {l : Launch} {D : va_G} {cy : Nat → ClassId} {h : Nat → Nat} {N : Nat} {σ : Wd} {a0 : Int32} {a1 : Int32} {r : Int32} {σ1 : Wd} (hW : WF (wsM cy h) (adM h)) (hr : f_X8_isPossible N σ a0 a1 = some (r, σ1)) : Con l D cy (wsM cy h) (adM h) yX8_isPossible wsX8_isPossible rm_X8_isPossible 0 0 [.ref (h 0), .int a0, .int a1] (some (.int r)) σ σ1 := by
  refine Con.of (ρ := Int32 × Wd) (lv0 := [(0, .ref (h 0)), (1, .int a0), (2, .int a1)]) (σ := σ) (fun r : Int32 × Wd => some (.int r.1)) (fun r => r.2) (by decide) rfl rfl (Nat.le_of_ble_eq_true rfl) rfl hW hr (fun p e s m args below meth c E => ?_)
  unfold f_X8_isPossible
  refine G.iload_n E dX8_isPossible_0 1 rfl rfl ?_
  refine G.swIn (c0 := 0) (tgt := 36) E dX8_isPossible_1 (by decide) (by decide) rfl (by decide) ?_ (fun n0 => ?_)
  · refine G.aload_n E dX8_isPossible_36 0 rfl rfl ?_
    refine G.getR (T := TX8) (N := 21) (C := RX8) (q0 := 0) (i := 6) E dX8_isPossible_37 iw_X8_isPossible_8 (wsM_at0 _ _ _) rfl (by decide) rfl (List.mem_of_getElem? (i := 1) rfl) ?_
    refine G.iload_n E dX8_isPossible_40 2 rfl rfl ?_
    refine G.iald (q0 := 1) E dX8_isPossible_41 (wsM_at1 _ _ _) (fun v1 => ?_)
    refine G.aload_n E dX8_isPossible_42 0 rfl rfl ?_
    refine G.getR (T := TX8) (N := 21) (C := RX8) (q0 := 0) (i := 7) E dX8_isPossible_43 iw_X8_isPossible_8 (wsM_at0 _ _ _) rfl (by decide) rfl (List.mem_of_getElem? (i := 2) rfl) ?_
    refine G.iload_n E dX8_isPossible_46 2 rfl rfl ?_
    refine G.iald (q0 := 2) E dX8_isPossible_47 (wsM_at2 _ _ _) (fun v2 => ?_)
    refine G.icmp_ne (tgt := 55) E dX8_isPossible_48 (by decide) ?_ ?_
    · refine G.iconst (v := 1) E dX8_isPossible_51 (by decide) ?_
      refine G.goto (tgt := 56) E dX8_isPossible_52 (by decide) ?_
      exact G.zretc E dX8_isPossible_56 rfl rfl rfl
    · refine G.iconst (v := 0) E dX8_isPossible_55 (by decide) ?_
      exact G.zretc E dX8_isPossible_56 rfl rfl rfl
  refine G.swIn (c0 := 1) (tgt := 57) E dX8_isPossible_1 (by decide) (by decide) rfl (by decide) ?_ (fun n1 => ?_)
  · refine G.aload_n E dX8_isPossible_57 0 rfl rfl ?_
    refine G.iload_n E dX8_isPossible_58 2 rfl rfl ?_
    refine G.callVi (n := 1) (T := TX8) (N := 21) (C := RX8) (a := h 0) (q0 := 0) (As := [.int a1]) E dX8_isPossible_59 (fun _ hv => c_X8_alike E.wf hv) gX8_isPossible_X8_alike rfl rfl rfl (by decide +kernel) ⟨Nat.le_of_ble_eq_true rfl, Nat.le_of_ble_eq_true rfl⟩ (wsM_at0 _ _ _) rfl rfl (Nat.le_of_ble_eq_true rfl) ⟨Nat.le_of_ble_eq_true rfl, Nat.le_of_ble_eq_true rfl⟩ (fun v3 => ?_)
    refine G.iconst (v := (-1)) E dX8_isPossible_62 (by decide) ?_
    refine G.icmp_eq (tgt := 92) E dX8_isPossible_63 (by decide) ?_ ?_
    · refine G.iconst (v := 0) E dX8_isPossible_92 (by decide) ?_
      exact G.zretc E dX8_isPossible_93 rfl rfl rfl
    · refine G.aload_n E dX8_isPossible_66 0 rfl rfl ?_
      refine G.getR (T := TX8) (N := 21) (C := RX8) (q0 := 0) (i := 8) E dX8_isPossible_67 iw_X8_isPossible_8 (wsM_at0 _ _ _) rfl (by decide) rfl (List.mem_of_getElem? (i := 3) rfl) ?_
      refine G.iload_n E dX8_isPossible_70 2 rfl rfl ?_
      refine G.iald (q0 := 3) E dX8_isPossible_71 (wsM_at3 _ _ _) (fun v4 => ?_)
      refine G.aload_n E dX8_isPossible_72 0 rfl rfl ?_
      refine G.getR (T := TX8) (N := 21) (C := RX8) (q0 := 0) (i := 8) E dX8_isPossible_73 iw_X8_isPossible_8 (wsM_at0 _ _ _) rfl (by decide) rfl (List.mem_of_getElem? (i := 3) rfl) ?_
      refine G.aload_n E dX8_isPossible_76 0 rfl rfl ?_
      refine G.iload_n E dX8_isPossible_77 2 rfl rfl ?_
      refine G.callVi (n := 1) (T := TX8) (N := 21) (C := RX8) (a := h 0) (q0 := 0) (As := [.int a1]) E dX8_isPossible_78 (fun _ hv => c_X8_alike E.wf hv) gX8_isPossible_X8_alike rfl rfl rfl (by decide +kernel) ⟨Nat.le_of_ble_eq_true rfl, Nat.le_of_ble_eq_true rfl⟩ (wsM_at0 _ _ _) rfl rfl (Nat.le_of_ble_eq_true rfl) ⟨Nat.le_of_ble_eq_true rfl, Nat.le_of_ble_eq_true rfl⟩ (fun v5 => ?_)
      refine G.iald (q0 := 3) E dX8_isPossible_81 (wsM_at3 _ _ _) (fun v6 => ?_)
      refine G.iadd E dX8_isPossible_82 ?_
      refine G.bipush (v := 60) E dX8_isPossible_83 (by decide) ?_
      refine G.icmp_gt (tgt := 92) E dX8_isPossible_85 (by decide) ?_ ?_
      · refine G.iconst (v := 0) E dX8_isPossible_92 (by decide) ?_
        exact G.zretc E dX8_isPossible_93 rfl rfl rfl
      · refine G.iconst (v := 1) E dX8_isPossible_88 (by decide) ?_
        refine G.goto (tgt := 93) E dX8_isPossible_89 (by decide) ?_
        exact G.zretc E dX8_isPossible_93 rfl rfl rfl
  refine G.swIn (c0 := 2) (tgt := 94) E dX8_isPossible_1 (by decide) (by decide) rfl (by decide) ?_ (fun n2 => ?_)
  · refine G.aload_n E dX8_isPossible_94 0 rfl rfl ?_
    refine G.iload_n E dX8_isPossible_95 2 rfl rfl ?_
    refine G.iconst (v := 1) E dX8_isPossible_96 (by decide) ?_
    refine G.callVis (n := 2) (T := TX8) (N := 21) (C := RX8) (a := h 0) (q0 := 0) (As := [.int a1, .int 1]) E dX8_isPossible_97 (fun _ _ hv => c_X8_isInner E.wf hv) gX8_isPossible_X8_isInner rfl rfl rfl (by decide +kernel) ⟨Nat.le_of_ble_eq_true rfl, Nat.le_of_ble_eq_true rfl⟩ (wsM_at0 _ _ _) rfl rfl (Nat.le_of_ble_eq_true rfl) ⟨Nat.le_of_ble_eq_true rfl, Nat.le_of_ble_eq_true rfl⟩ (fun v7 s8 => ?_)
    exact G.zret E dX8_isPossible_100 rfl rfl
  refine G.swIn (c0 := 3) (tgt := 101) E dX8_isPossible_1 (by decide) (by decide) rfl (by decide) ?_ (fun n3 => ?_)
  · refine G.aload_n E dX8_isPossible_101 0 rfl rfl ?_
    refine G.iload_n E dX8_isPossible_102 2 rfl rfl ?_
    refine G.callVis (n := 1) (T := TX8) (N := 21) (C := RX8) (a := h 0) (q0 := 0) (As := [.int a1]) E dX8_isPossible_103 (fun _ _ hv => c_X8_canSeries E.wf hv) gX8_isPossible_X8_canSeries rfl rfl rfl (by decide +kernel) ⟨Nat.le_of_ble_eq_true rfl, Nat.le_of_ble_eq_true rfl⟩ (wsM_at0 _ _ _) rfl rfl (Nat.le_of_ble_eq_true rfl) ⟨Nat.le_of_ble_eq_true rfl, Nat.le_of_ble_eq_true rfl⟩ (fun v9 s10 => ?_)
    exact G.zret E dX8_isPossible_106 rfl rfl
  refine G.swIn (c0 := 4) (tgt := 107) E dX8_isPossible_1 (by decide) (by decide) rfl (by decide) ?_ (fun n4 => ?_)
  · refine G.aload_n E dX8_isPossible_107 0 rfl rfl ?_
    refine G.iload_n E dX8_isPossible_108 2 rfl rfl ?_
    refine G.callVis (n := 1) (T := TX8) (N := 21) (C := RX8) (a := h 0) (q0 := 0) (As := [.int a1]) E dX8_isPossible_109 (fun _ _ hv => c_X8_canTriangle E.wf hv) gX8_isPossible_X8_canTriangle rfl rfl rfl (by decide +kernel) ⟨Nat.le_of_ble_eq_true rfl, Nat.le_of_ble_eq_true rfl⟩ (wsM_at0 _ _ _) rfl rfl (Nat.le_of_ble_eq_true rfl) ⟨Nat.le_of_ble_eq_true rfl, Nat.le_of_ble_eq_true rfl⟩ (fun v11 s12 => ?_)
    exact G.zret E dX8_isPossible_112 rfl rfl
  refine G.swOut (tgt := 113) E dX8_isPossible_1 (by have := lv_neT (a := 0) n0 (by decide); have := lv_neT (a := 1) n1 (by decide); have := lv_neT (a := 2) n2 (by decide); have := lv_neT (a := 3) n3 (by decide); have := lv_neT (a := 4) n4 (by decide); omega) (by decide) ?_
  refine G.aload_n E dX8_isPossible_113 0 rfl rfl ?_
  refine G.iload_n E dX8_isPossible_114 2 rfl rfl ?_
  refine G.callVis (n := 1) (T := TX8) (N := 21) (C := RX8) (a := h 0) (q0 := 0) (As := [.int a1]) E dX8_isPossible_115 (fun _ _ hv => c_X8_canStar E.wf hv) gX8_isPossible_X8_canStar rfl rfl rfl (by decide +kernel) ⟨Nat.le_of_ble_eq_true rfl, Nat.le_of_ble_eq_true rfl⟩ (wsM_at0 _ _ _) rfl rfl (Nat.le_of_ble_eq_true rfl) ⟨Nat.le_of_ble_eq_true rfl, Nat.le_of_ble_eq_true rfl⟩ (fun v13 s14 => ?_)
  exact G.zret E dX8_isPossible_118 rfl rfl
set_option maxHeartbeats 4000000 in
set_option maxRecDepth 100000 in
theorem iw_X8_isWire_8 : ∀ w ∈ u_ws RX8 TX8 21, w ∈ wsX8_isWire := fun _ h => List.mem_cons_of_mem _ (List.mem_append_right _ h)
abbrev rm_X8_isWire : Room := { frames := 1, cells := 0, slots := 0, locals := 22 }
noncomputable def f_X8_isWire (N : Nat) (σ : Wd) (a0 : Int32) : Option (Int32) :=
  bP (f_X8_in N a0 0 19) fun v1 =>
  if v1 = 0 then (
    some 0)
  else (
    gI σ 0 5 fun v2 =>
    bP (f_X8_isIn N v2 a0) fun v3 =>
    if v3 = 0 then (
      some 0)
    else (
      some 1))
set_option maxHeartbeats 4000000 in
set_option maxRecDepth 100000 in
theorem c_X8_isWire {l : Launch} {D : va_G} {cy : Nat → ClassId} {h : Nat → Nat} {N : Nat} {σ : Wd} {a0 : Int32} {r : Int32} (hW : WF (wsM cy h) (adM h)) (hr : f_X8_isWire N σ a0 = some r) : Con l D cy (wsM cy h) (adM h) yX8_isWire wsX8_isWire rm_X8_isWire 0 0 [.ref (h 0), .int a0] (some (.int r)) σ σ := by
  refine Con.of (ρ := Int32) (lv0 := [(0, .ref (h 0)), (1, .int a0)]) (σ := σ) (fun r : Int32 => some (.int r)) (fun _ => σ) (by decide) rfl rfl (Nat.le_of_ble_eq_true rfl) rfl hW hr (fun p e s m args below meth c E => ?_)
  unfold f_X8_isWire
  refine G.iload_n E dX8_isWire_0 1 rfl rfl ?_
  refine G.iconst (v := 0) E dX8_isWire_1 (by decide) ?_
  refine G.bipush (v := 19) E dX8_isWire_2 (by decide) ?_
  refine G.callSi (n := 3) (As := [.int a0, .int 0, .int 19]) E dX8_isWire_4 (fun _ hv => c_X8_in E.wf hv) gX8_isWire_X8_in rfl rfl rfl (by decide +kernel) ⟨Nat.le_of_ble_eq_true rfl, Nat.le_of_ble_eq_true rfl⟩ rfl (Nat.le_of_ble_eq_true rfl) ⟨Nat.le_of_ble_eq_true rfl, Nat.le_of_ble_eq_true rfl⟩ (fun v1 => ?_)
  refine G.if_eq (tgt := 25) E dX8_isWire_7 (by decide) ?_ ?_
  · refine G.iconst (v := 0) E dX8_isWire_25 (by decide) ?_
    exact G.zretc E dX8_isWire_26 rfl rfl rfl
  · refine G.aload_n E dX8_isWire_10 0 rfl rfl ?_
    refine G.getI (T := TX8) (N := 21) (C := RX8) (q0 := 0) (i := 5) E dX8_isWire_11 iw_X8_isWire_8 (wsM_at0 _ _ _) rfl (by decide) rfl (List.mem_of_getElem? (i := 1) rfl) (fun v2 => ?_)
    refine G.iload_n E dX8_isWire_14 1 rfl rfl ?_
    refine G.callSi (n := 2) (As := [.int v2, .int a0]) E dX8_isWire_15 (fun _ hv => c_X8_isIn E.wf hv) gX8_isWire_X8_isIn rfl rfl rfl (by decide +kernel) ⟨Nat.le_of_ble_eq_true rfl, Nat.le_of_ble_eq_true rfl⟩ rfl (Nat.le_of_ble_eq_true rfl) ⟨Nat.le_of_ble_eq_true rfl, Nat.le_of_ble_eq_true rfl⟩ (fun v3 => ?_)
    refine G.if_eq (tgt := 25) E dX8_isWire_18 (by decide) ?_ ?_
    · refine G.iconst (v := 0) E dX8_isWire_25 (by decide) ?_
      exact G.zretc E dX8_isWire_26 rfl rfl rfl
    · refine G.iconst (v := 1) E dX8_isWire_21 (by decide) ?_
      refine G.goto (tgt := 26) E dX8_isWire_22 (by decide) ?_
      exact G.zretc E dX8_isWire_26 rfl rfl rfl
set_option maxHeartbeats 4000000 in
set_option maxRecDepth 100000 in
theorem iw_X8_keeps_8 : ∀ w ∈ u_ws RX8 TX8 21, w ∈ wsX8_keeps := fun _ h => List.mem_cons_of_mem _ (List.mem_append_right _ h)
abbrev rm_X8_keeps : Room := { frames := 5, cells := 0, slots := 0, locals := 122 }
noncomputable def fl_X8_keeps_36 {ρ : Type} (N : Nat) (x2 : Int64) (x4 : Int32) (K : Int32 → Wd → Option ρ) : Nat → Int32 → Int32 → Wd → Option ρ
  | 0, _, _, _ => none
  | n + 1, x1, x5, s0 =>
    if x4 ≤ x5 then (
      K x1 s0)
    else (
      gI s0 0 15 fun v5 =>
      bP (f_X8_isIn N v5 x4) fun v6 =>
      jn (fun (v7 : Int32) (s8 : Wd) => ((
        fl_X8_keeps_36 N x2 x4 K n v7 (x5 + 1) s8) : Option (ρ))) fun j137 =>
      if v6 = 0 then (
        j137 x1 s0)
      else (
        gI s0 0 15 fun v9 =>
        bP (f_X8_isIn N v9 x5) fun v10 =>
        if v10 = 0 then (
          j137 x1 s0)
        else (
          bS (f_X8_counts N s0 2 x4 x5 0) fun v11 s12 =>
          jn (fun (v13 : Int32) => ((
            j137 v13 s12) : Option (ρ))) fun j136 =>
          jn (fun (_u : Unit) => ((
            j136 0) : Option (ρ))) fun j135 =>
          if x1 = 0 then (
            j135 ())
          else (
            rL s12 8 49 ((7 * x4) + x5) fun v14 =>
            bP (f_X8_part N v11 x2 0) fun v15 =>
            if (lg_cmp v14 v15) = 0 then (
              rL s12 9 49 ((7 * x4) + x5) fun v16 =>
              bP (f_X8_part N v11 x2 1) fun v17 =>
              if (lg_cmp v16 v17) = 0 then (
                j136 1)
              else (
                j135 ()))
            else (
              j135 ())))))
set_option maxHeartbeats 4000000 in
set_option maxRecDepth 100000 in
theorem gl_X8_keeps_36 {ρ : Type} {Q : ρ → State → Prop} {N : Nat} {x2 : Int64} {x4 : Int32} {K : Int32 → Wd → Option ρ} (E : EV p s m args meth c cX8_keeps 8 RX8 wsX8_keeps (some .boolean) D cy (wsM cy h) (adM h)) (hK : ∀ (x1' : Int32) (s' : Wd), G p l e (headSpec wsX8_keeps rm_X8_keeps).room s m args below meth c 8 0 0 D (wsM cy h) (adM h) Q 143 [(0, .ref (h 0)), (1, .int (x1')), (2, .long x2), (4, .int x4)] [] s' (K x1' s')) :
  ∀ (n : Nat) (x1 : Int32) (x5 : Int32) (s0 : Wd), G p l e (headSpec wsX8_keeps rm_X8_keeps).room s m args below meth c 8 0 0 D (wsM cy h) (adM h) Q 36 [(0, .ref (h 0)), (1, .int x1), (2, .long x2), (4, .int x4), (5, .int x5)] [] s0 (fl_X8_keeps_36 N x2 x4 K n x1 x5 s0) := by
  intro n
  induction n with
  | zero => intros; exact G.no
  | succ n ih =>
    intro x1 x5 s0
    rw [fl_X8_keeps_36]
    refine G.iload E dX8_keeps_36 4 rfl ?_
    refine G.iload E dX8_keeps_38 3 rfl ?_
    refine G.icmp_ge (tgt := 143) E dX8_keeps_40 (by decide) ?_ ?_
    · refine G.loc [0, 1, 2, 3] rfl ?_
      exact hK x1 s0
    · refine G.aload_n E dX8_keeps_43 0 rfl rfl ?_
      refine G.getI (T := TX8) (N := 21) (C := RX8) (q0 := 0) (i := 15) E dX8_keeps_44 iw_X8_keeps_8 (wsM_at0 _ _ _) rfl (by decide) rfl (List.mem_of_getElem? (i := 3) rfl) (fun v5 => ?_)
      refine G.iload E dX8_keeps_47 3 rfl ?_
      refine G.callSi (n := 2) (As := [.int v5, .int x4]) E dX8_keeps_49 (fun _ hv => c_X8_isIn E.wf hv) gX8_keeps_X8_isIn rfl rfl rfl (by decide +kernel) ⟨Nat.le_of_ble_eq_true rfl, Nat.le_of_ble_eq_true rfl⟩ rfl (Nat.le_of_ble_eq_true rfl) ⟨Nat.le_of_ble_eq_true rfl, Nat.le_of_ble_eq_true rfl⟩ (fun v6 => ?_)
      refine G.jn (P := fun j => ∀ (v7 : Int32) (s8 : Wd), G p l e (headSpec wsX8_keeps rm_X8_keeps).room s m args below meth c 8 0 0 D (wsM cy h) (adM h) Q 137 [(0, .ref (h 0)), (1, .int v7), (2, .long x2), (4, .int x4), (5, .int x5)] [] s8 (j v7 s8)) ?_ (fun j137 hj137 => ?_)
      · intro v7 s8
        refine G.iinc (v := x5 + 1) (lv' := [(5, .int (x5 + 1)), (0, .ref (h 0)), (1, .int v7), (2, .long x2), (4, .int x4)]) E dX8_keeps_137 4 rfl rfl (by decide) rfl ?_
        refine G.goto (tgt := 36) E dX8_keeps_140 (by decide) ?_
        refine G.loc [1, 2, 3, 4, 0] rfl ?_
        exact ih v7 (x5 + 1) s8
      · refine G.if_eq (tgt := 137) E dX8_keeps_52 (by decide) ?_ ?_
        · refine G.loc [0, 1, 2, 3, 4] rfl ?_
          exact hj137 x1 s0
        · refine G.aload_n E dX8_keeps_55 0 rfl rfl ?_
          refine G.getI (T := TX8) (N := 21) (C := RX8) (q0 := 0) (i := 15) E dX8_keeps_56 iw_X8_keeps_8 (wsM_at0 _ _ _) rfl (by decide) rfl (List.mem_of_getElem? (i := 3) rfl) (fun v9 => ?_)
          refine G.iload E dX8_keeps_59 4 rfl ?_
          refine G.callSi (n := 2) (As := [.int v9, .int x5]) E dX8_keeps_61 (fun _ hv => c_X8_isIn E.wf hv) gX8_keeps_X8_isIn rfl rfl rfl (by decide +kernel) ⟨Nat.le_of_ble_eq_true rfl, Nat.le_of_ble_eq_true rfl⟩ rfl (Nat.le_of_ble_eq_true rfl) ⟨Nat.le_of_ble_eq_true rfl, Nat.le_of_ble_eq_true rfl⟩ (fun v10 => ?_)
          refine G.if_eq (tgt := 137) E dX8_keeps_64 (by decide) ?_ ?_
          · refine G.loc [0, 1, 2, 3, 4] rfl ?_
            exact hj137 x1 s0
          · refine G.aload_n E dX8_keeps_67 0 rfl rfl ?_
            refine G.iconst (v := 2) E dX8_keeps_68 (by decide) ?_
            refine G.iload E dX8_keeps_69 3 rfl ?_
            refine G.iload E dX8_keeps_71 4 rfl ?_
            refine G.iconst (v := 0) E dX8_keeps_73 (by decide) ?_
            refine G.callVls (n := 4) (T := TX8) (N := 21) (C := RX8) (a := h 0) (q0 := 0) (As := [.int 2, .int x4, .int x5, .int 0]) E dX8_keeps_74 (fun _ _ hv => c_X8_counts E.wf hv) gX8_keeps_X8_counts rfl rfl rfl (by decide +kernel) ⟨Nat.le_of_ble_eq_true rfl, Nat.le_of_ble_eq_true rfl⟩ (wsM_at0 _ _ _) rfl rfl (Nat.le_of_ble_eq_true rfl) ⟨Nat.le_of_ble_eq_true rfl, Nat.le_of_ble_eq_true rfl⟩ (fun v11 s12 => ?_)
            refine G.lstore (lv' := [(6, .long v11), (0, .ref (h 0)), (1, .int x1), (2, .long x2), (4, .int x4), (5, .int x5)]) E dX8_keeps_77 (by decide) rfl ?_
            refine G.iload_n E dX8_keeps_79 2 rfl rfl ?_
            refine G.jn (P := fun j => ∀ (v13 : Int32), G p l e (headSpec wsX8_keeps rm_X8_keeps).room s m args below meth c 8 0 0 D (wsM cy h) (adM h) Q 136 [(0, .ref (h 0)), (2, .long x2), (4, .int x4), (5, .int x5)] [.int v13] s12 (j v13)) ?_ (fun j136 hj136 => ?_)
            · intro v13
              refine G.istore_n (lv' := [(1, .int v13), (0, .ref (h 0)), (2, .long x2), (4, .int x4), (5, .int x5)]) E dX8_keeps_136 rfl (by decide) rfl ?_
              refine G.loc [1, 0, 2, 3, 4] rfl ?_
              exact hj137 v13 s12
            · refine G.jn (P := fun j => ∀ (_u : Unit), G p l e (headSpec wsX8_keeps rm_X8_keeps).room s m args below meth c 8 0 0 D (wsM cy h) (adM h) Q 135 [(0, .ref (h 0)), (2, .long x2), (4, .int x4), (5, .int x5)] [] s12 (j _u)) ?_ (fun j135 hj135 => ?_)
              · intro _u
                refine G.iconst (v := 0) E dX8_keeps_135 (by decide) ?_
                refine G.loc [0, 1, 2, 3] rfl ?_
                exact hj136 0
              · refine G.if_eq (tgt := 135) E dX8_keeps_80 (by decide) ?_ ?_
                · refine G.loc [1, 3, 4, 5] rfl ?_
                  exact hj135 ()
                · refine G.aload_n E dX8_keeps_83 1 rfl rfl ?_
                  refine G.getR (T := TX8) (N := 21) (C := RX8) (q0 := 0) (i := 16) E dX8_keeps_84 iw_X8_keeps_8 (wsM_at0 _ _ _) rfl (by decide) rfl (List.mem_of_getElem? (i := 4) rfl) ?_
                  refine G.bipush (v := 7) E dX8_keeps_87 (by decide) ?_
                  refine G.iload E dX8_keeps_89 4 rfl ?_
                  refine G.imul E dX8_keeps_91 ?_
                  refine G.iload E dX8_keeps_92 5 rfl ?_
                  refine G.iadd E dX8_keeps_94 ?_
                  refine G.lald (q0 := 8) E dX8_keeps_95 (wsM_at8 _ _ _) (fun v14 => ?_)
                  refine G.lload E dX8_keeps_96 0 rfl ?_
                  refine G.lload_n E dX8_keeps_98 3 rfl rfl ?_
                  refine G.iconst (v := 0) E dX8_keeps_99 (by decide) ?_
                  refine G.callSl (n := 3) (As := [.long v11, .long x2, .int 0]) E dX8_keeps_100 (fun _ hv => c_X8_part E.wf hv) gX8_keeps_X8_part rfl rfl rfl (by decide +kernel) ⟨Nat.le_of_ble_eq_true rfl, Nat.le_of_ble_eq_true rfl⟩ rfl (Nat.le_of_ble_eq_true rfl) ⟨Nat.le_of_ble_eq_true rfl, Nat.le_of_ble_eq_true rfl⟩ (fun v15 => ?_)
                  refine G.lcmp E dX8_keeps_103 ?_
                  refine G.if_ne (tgt := 135) E dX8_keeps_104 (by decide) ?_ ?_
                  · refine G.aload_n E dX8_keeps_107 1 rfl rfl ?_
                    refine G.getR (T := TX8) (N := 21) (C := RX8) (q0 := 0) (i := 17) E dX8_keeps_108 iw_X8_keeps_8 (wsM_at0 _ _ _) rfl (by decide) rfl (List.mem_of_getElem? (i := 5) rfl) ?_
                    refine G.bipush (v := 7) E dX8_keeps_111 (by decide) ?_
                    refine G.iload E dX8_keeps_113 4 rfl ?_
                    refine G.imul E dX8_keeps_115 ?_
                    refine G.iload E dX8_keeps_116 5 rfl ?_
                    refine G.iadd E dX8_keeps_118 ?_
                    refine G.lald (q0 := 9) E dX8_keeps_119 (wsM_at9 _ _ _) (fun v16 => ?_)
                    refine G.lload E dX8_keeps_120 0 rfl ?_
                    refine G.lload_n E dX8_keeps_122 3 rfl rfl ?_
                    refine G.iconst (v := 1) E dX8_keeps_123 (by decide) ?_
                    refine G.callSl (n := 3) (As := [.long v11, .long x2, .int 1]) E dX8_keeps_124 (fun _ hv => c_X8_part E.wf hv) gX8_keeps_X8_part rfl rfl rfl (by decide +kernel) ⟨Nat.le_of_ble_eq_true rfl, Nat.le_of_ble_eq_true rfl⟩ rfl (Nat.le_of_ble_eq_true rfl) ⟨Nat.le_of_ble_eq_true rfl, Nat.le_of_ble_eq_true rfl⟩ (fun v17 => ?_)
                    refine G.lcmp E dX8_keeps_127 ?_
                    refine G.if_ne (tgt := 135) E dX8_keeps_128 (by decide) ?_ ?_
                    · refine G.iconst (v := 1) E dX8_keeps_131 (by decide) ?_
                      refine G.goto (tgt := 136) E dX8_keeps_132 (by decide) ?_
                      refine G.loc [1, 3, 4, 5] rfl ?_
                      exact hj136 1
                    · refine G.loc [1, 3, 4, 5] rfl ?_
                      exact hj135 ()
                  · refine G.loc [1, 3, 4, 5] rfl ?_
                    exact hj135 ()
noncomputable def fl_X8_keeps_19 {ρ : Type} (N : Nat) (x2 : Int64) (K : Int32 → Wd → Option ρ) : Nat → Int32 → Int32 → Wd → Option ρ
  | 0, _, _, _ => none
  | n + 1, x1, x4, s0 =>
    if 7 ≤ x4 then (
      K x1 s0)
    else (
      gI s0 0 14 fun v4 =>
      if v4 = 0 then (
        K x1 s0)
      else (
        fl_X8_keeps_36 N x2 x4 (fun v18 s19 =>
          fl_X8_keeps_19 N x2 K n v18 (x4 + 1) s19) N x1 0 s0))
set_option maxHeartbeats 4000000 in
set_option maxRecDepth 100000 in
theorem gl_X8_keeps_19 {ρ : Type} {Q : ρ → State → Prop} {N : Nat} {x2 : Int64} {K : Int32 → Wd → Option ρ} (E : EV p s m args meth c cX8_keeps 8 RX8 wsX8_keeps (some .boolean) D cy (wsM cy h) (adM h)) (hK : ∀ (x1' : Int32) (s' : Wd), G p l e (headSpec wsX8_keeps rm_X8_keeps).room s m args below meth c 8 0 0 D (wsM cy h) (adM h) Q 149 [(1, .int (x1'))] [] s' (K x1' s')) :
  ∀ (n : Nat) (x1 : Int32) (x4 : Int32) (s0 : Wd), G p l e (headSpec wsX8_keeps rm_X8_keeps).room s m args below meth c 8 0 0 D (wsM cy h) (adM h) Q 19 [(0, .ref (h 0)), (1, .int x1), (2, .long x2), (4, .int x4)] [] s0 (fl_X8_keeps_19 N x2 K n x1 x4 s0) := by
  intro n
  induction n with
  | zero => intros; exact G.no
  | succ n ih =>
    intro x1 x4 s0
    rw [fl_X8_keeps_19]
    refine G.iload E dX8_keeps_19 3 rfl ?_
    refine G.bipush (v := 7) E dX8_keeps_21 (by decide) ?_
    refine G.icmp_ge (tgt := 149) E dX8_keeps_23 (by decide) ?_ ?_
    · refine G.loc [1] rfl ?_
      exact hK x1 s0
    · refine G.aload_n E dX8_keeps_26 0 rfl rfl ?_
      refine G.getI (T := TX8) (N := 21) (C := RX8) (q0 := 0) (i := 14) E dX8_keeps_27 iw_X8_keeps_8 (wsM_at0 _ _ _) rfl (by decide) rfl (List.mem_of_getElem? (i := 2) rfl) (fun v4 => ?_)
      refine G.if_eq (tgt := 149) E dX8_keeps_30 (by decide) ?_ ?_
      · refine G.loc [1] rfl ?_
        exact hK x1 s0
      · refine G.iconst (v := 0) E dX8_keeps_33 (by decide) ?_
        refine G.istore (lv' := [(5, .int 0), (0, .ref (h 0)), (1, .int x1), (2, .long x2), (4, .int x4)]) E dX8_keeps_34 (by decide) rfl ?_
        refine G.loc [1, 2, 3, 4, 0] rfl ?_
        refine gl_X8_keeps_36 E (fun v18 s19 => ?_) N _ _ _
        refine G.iinc (v := x4 + 1) (lv' := [(4, .int (x4 + 1)), (0, .ref (h 0)), (1, .int v18), (2, .long x2)]) E dX8_keeps_143 3 rfl rfl (by decide) rfl ?_
        refine G.goto (tgt := 19) E dX8_keeps_146 (by decide) ?_
        refine G.loc [1, 2, 3, 0] rfl ?_
        exact ih v18 (x4 + 1) s19
noncomputable def f_X8_keeps (N : Nat) (σ : Wd) : Option (Int32 × Wd) :=
  wI σ 0 0 0 fun s1 =>
  bS (f_X8_counts N s1 1 0 0 0) fun v2 s3 =>
  fl_X8_keeps_19 N v2 (fun v20 s21 =>
    zb v20 (some (v20, s21))) N 1 0 s3
set_option maxHeartbeats 4000000 in
set_option maxRecDepth 100000 in
theorem c_X8_keeps {l : Launch} {D : va_G} {cy : Nat → ClassId} {h : Nat → Nat} {N : Nat} {σ : Wd} {r : Int32} {σ1 : Wd} (hW : WF (wsM cy h) (adM h)) (hr : f_X8_keeps N σ = some (r, σ1)) : Con l D cy (wsM cy h) (adM h) yX8_keeps wsX8_keeps rm_X8_keeps 0 0 [.ref (h 0)] (some (.int r)) σ σ1 := by
  refine Con.of (ρ := Int32 × Wd) (lv0 := [(0, .ref (h 0))]) (σ := σ) (fun r : Int32 × Wd => some (.int r.1)) (fun r => r.2) (by decide) rfl rfl (Nat.le_of_ble_eq_true rfl) rfl hW hr (fun p e s m args below meth c E => ?_)
  unfold f_X8_keeps
  refine G.aload_n E dX8_keeps_0 0 rfl rfl ?_
  refine G.iconst (v := 0) E dX8_keeps_1 (by decide) ?_
  refine G.putI (T := TX8) (N := 21) (C := RX8) (q0 := 0) (i := 0) (ty := .int) E dX8_keeps_2 iw_X8_keeps_8 tyX8 tyX8_ok nmX8 (wsM_at0 _ _ _) rfl (by decide) (List.mem_of_getElem? (i := 1) rfl) rfl (by decide +kernel) rfl rfl (Nat.le_of_ble_eq_true rfl) (wsM_set0_0 _ _ _ _) (fun s1 => ?_)
  refine G.iconst (v := 1) E dX8_keeps_5 (by decide) ?_
  refine G.istore_n (lv' := [(1, .int 1), (0, .ref (h 0))]) E dX8_keeps_6 rfl (by decide) rfl ?_
  refine G.aload_n E dX8_keeps_7 1 rfl rfl ?_
  refine G.iconst (v := 1) E dX8_keeps_8 (by decide) ?_
  refine G.iconst (v := 0) E dX8_keeps_9 (by decide) ?_
  refine G.iconst (v := 0) E dX8_keeps_10 (by decide) ?_
  refine G.iconst (v := 0) E dX8_keeps_11 (by decide) ?_
  refine G.callVls (n := 4) (T := TX8) (N := 21) (C := RX8) (a := h 0) (q0 := 0) (As := [.int 1, .int 0, .int 0, .int 0]) E dX8_keeps_12 (fun _ _ hv => c_X8_counts E.wf hv) gX8_keeps_X8_counts rfl rfl rfl (by decide +kernel) ⟨Nat.le_of_ble_eq_true rfl, Nat.le_of_ble_eq_true rfl⟩ (wsM_at0 _ _ _) rfl rfl (Nat.le_of_ble_eq_true rfl) ⟨Nat.le_of_ble_eq_true rfl, Nat.le_of_ble_eq_true rfl⟩ (fun v2 s3 => ?_)
  refine G.lstore_n (lv' := [(2, .long v2), (1, .int 1), (0, .ref (h 0))]) E dX8_keeps_15 rfl (by decide) rfl ?_
  refine G.iconst (v := 0) E dX8_keeps_16 (by decide) ?_
  refine G.istore (lv' := [(4, .int 0), (2, .long v2), (1, .int 1), (0, .ref (h 0))]) E dX8_keeps_17 (by decide) rfl ?_
  refine G.loc [3, 2, 1, 0] rfl ?_
  refine gl_X8_keeps_19 E (fun v20 s21 => ?_) N _ _ _
  refine G.iload_n E dX8_keeps_149 0 rfl rfl ?_
  exact G.zret E dX8_keeps_150 rfl rfl
end TR
