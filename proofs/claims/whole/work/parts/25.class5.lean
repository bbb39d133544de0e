section TR
variable {p : Program} {l : Launch} {e : Env} {s : State} {m : MethodId} {args : Array Value} {below : List Frame} {meth : Method} {c : Code} {D : va_G} {cy : Nat → ClassId} {h : Nat → Nat}

set_option maxHeartbeats 4000000 in
set_option maxRecDepth 100000 in
theorem iw_X7_mark_4 : ∀ w ∈ u_ws RX4 TX4 8, w ∈ wsX7_mark := fun _ h => List.mem_cons_of_mem _ (List.mem_append_left _ (List.mem_append_left _ (List.mem_append_right _ h)))
set_option maxHeartbeats 4000000 in
set_option maxRecDepth 100000 in
theorem iw_X7_mark_7 : ∀ w ∈ u_ws RX7 TX7 7, w ∈ wsX7_mark := fun _ h => List.mem_cons_of_mem _ (List.mem_append_left _ (List.mem_append_left _ (List.mem_append_left _ (List.mem_append_right _ h))))
abbrev rm_X7_mark : Room := { frames := 16, cells := 0, slots := 0, locals := 399 }
noncomputable def fl_X7_mark_32 {ρ : Type} (N : Nat) (x1 : Int64) (x3 : Int32) (K : Wd → Option ρ) : Nat → Int32 → Wd → Option ρ
  | 0, _, _ => none
  | n + 1, x4, s0 =>
    if 7 ≤ x4 then (
      K s0)
    else (
      bP (f_X1_hasPair N s0 x3 x4) fun v6 =>
      jn (fun (s7 : Wd) => ((
        fl_X7_mark_32 N x1 x3 K n (x4 + 1) s7) : Option (ρ))) fun j85 =>
      if v6 = 0 then (
        j85 s0)
      else (
        bS (f_X7_upperOfAnswer N s0 x3 x4) fun v8 s9 =>
        bP (f_X7_partOf N v8 x1 0) fun v10 =>
        bP (f_X7_partOf N v8 x1 1) fun v11 =>
        bP (f_X1_keep N s9 x3 x4 v10 v11) fun s12 =>
        j85 s12))
set_option maxHeartbeats 4000000 in
set_option maxRecDepth 100000 in
theorem gl_X7_mark_32 {ρ : Type} {Q : ρ → State → Prop} {N : Nat} {x1 : Int64} {x3 : Int32} {K : Wd → Option ρ} (E : EV p s m args meth c cX7_mark 7 RX7 wsX7_mark none D cy (wsC cy h) (adC h)) (hK : ∀ (s' : Wd), G p l e (headSpec wsX7_mark rm_X7_mark).room s m args below meth c 7 0 0 D (wsC cy h) (adC h) Q 91 [(0, .ref (h 0)), (1, .long x1), (3, .int x3)] [] s' (K s')) :
  ∀ (n : Nat) (x4 : Int32) (s0 : Wd), G p l e (headSpec wsX7_mark rm_X7_mark).room s m args below meth c 7 0 0 D (wsC cy h) (adC h) Q 32 [(0, .ref (h 0)), (1, .long x1), (3, .int x3), (4, .int x4)] [] s0 (fl_X7_mark_32 N x1 x3 K n x4 s0) := by
  intro n
  induction n with
  | zero => intros; exact G.no
  | succ n ih =>
    intro x4 s0
    rw [fl_X7_mark_32]
    refine G.iload E dX7_mark_32 3 rfl ?_
    refine G.bipush (v := 7) E dX7_mark_34 (by decide) ?_
    refine G.icmp_ge (tgt := 91) E dX7_mark_36 (by decide) ?_ ?_
    · refine G.loc [0, 1, 2] rfl ?_
      exact hK s0
    · refine G.aload_n E dX7_mark_39 0 rfl rfl ?_
      refine G.getR (T := TX7) (N := 7) (C := RX7) (q0 := 0) (i := 5) E dX7_mark_40 iw_X7_mark_7 (wsC_at0 _ _ _) rfl (by decide) rfl (List.mem_of_getElem? (i := 1) rfl) ?_
      refine G.iload_n E dX7_mark_43 2 rfl rfl ?_
      refine G.iload E dX7_mark_44 3 rfl ?_
      refine G.callVi (n := 2) (T := TX1) (N := 3) (C := RX1) (a := h 40) (q0 := 40) (As := [.int x3, .int x4]) E dX7_mark_46 (fun _ hv => c_X1_hasPair E.wf hv) gX7_mark_X1_hasPair rfl rfl rfl (by decide +kernel) ⟨Nat.le_of_ble_eq_true rfl, Nat.le_of_ble_eq_true rfl⟩ (wsC_at40 _ _ _) rfl rfl (Nat.le_of_ble_eq_true rfl) ⟨Nat.le_of_ble_eq_true rfl, Nat.le_of_ble_eq_true rfl⟩ (fun v6 => ?_)
      refine G.jn (P := fun j => ∀ (s7 : Wd), G p l e (headSpec wsX7_mark rm_X7_mark).room s m args below meth c 7 0 0 D (wsC cy h) (adC h) Q 85 [(0, .ref (h 0)), (1, .long x1), (3, .int x3), (4, .int x4)] [] s7 (j s7)) ?_ (fun j85 hj85 => ?_)
      · intro s7
        refine G.iinc (v := x4 + 1) (lv' := [(4, .int (x4 + 1)), (0, .ref (h 0)), (1, .long x1), (3, .int x3)]) E dX7_mark_85 3 rfl rfl (by decide) rfl ?_
        refine G.goto (tgt := 32) E dX7_mark_88 (by decide) ?_
        refine G.loc [1, 2, 3, 0] rfl ?_
        exact ih (x4 + 1) s7
      · refine G.if_eq (tgt := 85) E dX7_mark_49 (by decide) ?_ ?_
        · refine G.loc [0, 1, 2, 3] rfl ?_
          exact hj85 s0
        · refine G.aload_n E dX7_mark_52 0 rfl rfl ?_
          refine G.iload_n E dX7_mark_53 2 rfl rfl ?_
          refine G.iload E dX7_mark_54 3 rfl ?_
          refine G.callVls (n := 2) (T := TX7) (N := 7) (C := RX7) (a := h 0) (q0 := 0) (As := [.int x3, .int x4]) E dX7_mark_56 (fun _ _ hv => c_X7_upperOfAnswer E.wf hv) gX7_mark_X7_upperOfAnswer rfl rfl rfl (by decide +kernel) ⟨Nat.le_of_ble_eq_true rfl, Nat.le_of_ble_eq_true rfl⟩ (wsC_at0 _ _ _) rfl rfl (Nat.le_of_ble_eq_true rfl) ⟨Nat.le_of_ble_eq_true rfl, Nat.le_of_ble_eq_true rfl⟩ (fun v8 s9 => ?_)
          refine G.lstore (lv' := [(5, .long v8), (0, .ref (h 0)), (1, .long x1), (3, .int x3), (4, .int x4)]) E dX7_mark_59 (by decide) rfl ?_
          refine G.aload_n E dX7_mark_61 1 rfl rfl ?_
          refine G.getR (T := TX7) (N := 7) (C := RX7) (q0 := 0) (i := 5) E dX7_mark_62 iw_X7_mark_7 (wsC_at0 _ _ _) rfl (by decide) rfl (List.mem_of_getElem? (i := 1) rfl) ?_
          refine G.iload_n E dX7_mark_65 3 rfl rfl ?_
          refine G.iload E dX7_mark_66 4 rfl ?_
          refine G.lload E dX7_mark_68 0 rfl ?_
          refine G.lload_n E dX7_mark_70 2 rfl rfl ?_
          refine G.iconst (v := 0) E dX7_mark_71 (by decide) ?_
          refine G.callSl (n := 3) (As := [.long v8, .long x1, .int 0]) E dX7_mark_72 (fun _ hv => c_X7_partOf E.wf hv) gX7_mark_X7_partOf rfl rfl rfl (by decide +kernel) ⟨Nat.le_of_ble_eq_true rfl, Nat.le_of_ble_eq_true rfl⟩ rfl (Nat.le_of_ble_eq_true rfl) ⟨Nat.le_of_ble_eq_true rfl, Nat.le_of_ble_eq_true rfl⟩ (fun v10 => ?_)
          refine G.lload E dX7_mark_75 0 rfl ?_
          refine G.lload_n E dX7_mark_77 2 rfl rfl ?_
          refine G.iconst (v := 1) E dX7_mark_78 (by decide) ?_
          refine G.callSl (n := 3) (As := [.long v8, .long x1, .int 1]) E dX7_mark_79 (fun _ hv => c_X7_partOf E.wf hv) gX7_mark_X7_partOf rfl rfl rfl (by decide +kernel) ⟨Nat.le_of_ble_eq_true rfl, Nat.le_of_ble_eq_true rfl⟩ rfl (Nat.le_of_ble_eq_true rfl) ⟨Nat.le_of_ble_eq_true rfl, Nat.le_of_ble_eq_true rfl⟩ (fun v11 => ?_)
          refine G.callVv (n := 4) (T := TX1) (N := 3) (C := RX1) (a := h 40) (q0 := 40) (As := [.int x3, .int x4, .long v10, .long v11]) E dX7_mark_82 (fun _ hv => c_X1_keep E.wf hv) gX7_mark_X1_keep rfl rfl rfl (by decide +kernel) ⟨Nat.le_of_ble_eq_true rfl, Nat.le_of_ble_eq_true rfl⟩ (wsC_at40 _ _ _) rfl rfl (Nat.le_of_ble_eq_true rfl) ⟨Nat.le_of_ble_eq_true rfl, Nat.le_of_ble_eq_true rfl⟩ (fun s12 => ?_)
          refine G.loc [1, 2, 3, 4] rfl ?_
          exact hj85 s12
noncomputable def fl_X7_mark_21 {ρ : Type} (N : Nat) (x1 : Int64) (K : Wd → Option ρ) : Nat → Int32 → Wd → Option ρ
  | 0, _, _ => none
  | n + 1, x3, s0 =>
    if 7 ≤ x3 then (
      K s0)
    else (
      lI (x3 + 1) fun v5 =>
      fl_X7_mark_32 N x1 x3 (fun s13 =>
        fl_X7_mark_21 N x1 K n (x3 + 1) s13) N v5 s0)
set_option maxHeartbeats 4000000 in
set_option maxRecDepth 100000 in
theorem gl_X7_mark_21 {ρ : Type} {Q : ρ → State → Prop} {N : Nat} {x1 : Int64} {K : Wd → Option ρ} (E : EV p s m args meth c cX7_mark 7 RX7 wsX7_mark none D cy (wsC cy h) (adC h)) (hK : ∀ (s' : Wd), G p l e (headSpec wsX7_mark rm_X7_mark).room s m args below meth c 7 0 0 D (wsC cy h) (adC h) Q 97 [] [] s' (K s')) :
  ∀ (n : Nat) (x3 : Int32) (s0 : Wd), G p l e (headSpec wsX7_mark rm_X7_mark).room s m args below meth c 7 0 0 D (wsC cy h) (adC h) Q 21 [(0, .ref (h 0)), (1, .long x1), (3, .int x3)] [] s0 (fl_X7_mark_21 N x1 K n x3 s0) := by
  intro n
  induction n with
  | zero => intros; exact G.no
  | succ n ih =>
    intro x3 s0
    rw [fl_X7_mark_21]
    refine G.iload_n E dX7_mark_21 2 rfl rfl ?_
    refine G.bipush (v := 7) E dX7_mark_22 (by decide) ?_
    refine G.icmp_ge (tgt := 97) E dX7_mark_24 (by decide) ?_ ?_
    · refine G.loc [] rfl ?_
      exact hK s0
    · refine G.iload_n E dX7_mark_27 2 rfl rfl ?_
      refine G.iconst (v := 1) E dX7_mark_28 (by decide) ?_
      refine G.iadd E dX7_mark_29 ?_
      refine G.letI (fun v5 => ?_)
      refine G.istore (lv' := [(4, .int v5), (0, .ref (h 0)), (1, .long x1), (3, .int x3)]) E dX7_mark_30 (by decide) rfl ?_
      refine G.loc [1, 2, 3, 0] rfl ?_
      refine gl_X7_mark_32 E (fun s13 => ?_) N _ _
      refine G.iinc (v := x3 + 1) (lv' := [(3, .int (x3 + 1)), (0, .ref (h 0)), (1, .long x1)]) E dX7_mark_91 2 rfl rfl (by decide) rfl ?_
      refine G.goto (tgt := 21) E dX7_mark_94 (by decide) ?_
      refine G.loc [1, 2, 0] rfl ?_
      exact ih (x3 + 1) s13
noncomputable def f_X7_mark (N : Nat) (σ : Wd) : Option (Wd) :=
  gI σ 1 1 fun v1 =>
  bP (f_X1_begin N σ v1) fun s2 =>
  bS (f_X7_countRest N s2) fun v3 s4 =>
  fl_X7_mark_21 N v3 (fun s14 =>
    some s14) N 0 s4
set_option maxHeartbeats 4000000 in
set_option maxRecDepth 100000 in
theorem c_X7_mark {l : Launch} {D : va_G} {cy : Nat → ClassId} {h : Nat → Nat} {N : Nat} {σ : Wd} {σ1 : Wd} (hW : WF (wsC cy h) (adC h)) (hr : f_X7_mark N σ = some σ1) : Con l D cy (wsC cy h) (adC h) yX7_mark wsX7_mark rm_X7_mark 0 0 [.ref (h 0)] (none) σ σ1 := by
  refine Con.of (ρ := Wd) (lv0 := [(0, .ref (h 0))]) (σ := σ) (fun _ : Wd => none) (fun r => r) (by decide) rfl rfl (Nat.le_of_ble_eq_true rfl) rfl hW hr (fun p e s m args below meth c E => ?_)
  unfold f_X7_mark
  refine G.aload_n E dX7_mark_0 0 rfl rfl ?_
  refine G.getR (T := TX7) (N := 7) (C := RX7) (q0 := 0) (i := 5) E dX7_mark_1 iw_X7_mark_7 (wsC_at0 _ _ _) rfl (by decide) rfl (List.mem_of_getElem? (i := 1) rfl) ?_
  refine G.aload_n E dX7_mark_4 0 rfl rfl ?_
  refine G.getR (T := TX7) (N := 7) (C := RX7) (q0 := 0) (i := 0) E dX7_mark_5 iw_X7_mark_7 (wsC_at0 _ _ _) rfl (by decide) rfl (List.mem_of_getElem? (i := 2) rfl) ?_
  refine G.getI (T := TX4) (N := 8) (C := RX4) (q0 := 1) (i := 1) E dX7_mark_8 iw_X7_mark_4 (wsC_at1 _ _ _) rfl (by decide) rfl (List.mem_of_getElem? (i := 3) rfl) (fun v1 => ?_)
  refine G.callVv (n := 1) (T := TX1) (N := 3) (C := RX1) (a := h 40) (q0 := 40) (As := [.int v1]) E dX7_mark_11 (fun _ hv => c_X1_begin E.wf hv) gX7_mark_X1_begin rfl rfl rfl (by decide +kernel) ⟨Nat.le_of_ble_eq_true rfl, Nat.le_of_ble_eq_true rfl⟩ (wsC_at40 _ _ _) rfl rfl (Nat.le_of_ble_eq_true rfl) ⟨Nat.le_of_ble_eq_true rfl, Nat.le_of_ble_eq_true rfl⟩ (fun s2 => ?_)
  refine G.aload_n E dX7_mark_14 0 rfl rfl ?_
  refine G.callVls (n := 0) (T := TX7) (N := 7) (C := RX7) (a := h 0) (q0 := 0) (As := []) E dX7_mark_15 (fun _ _ hv => c_X7_countRest E.wf hv) gX7_mark_X7_countRest rfl rfl rfl (by decide +kernel) ⟨Nat.le_of_ble_eq_true rfl, Nat.le_of_ble_eq_true rfl⟩ (wsC_at0 _ _ _) rfl rfl (Nat.le_of_ble_eq_true rfl) ⟨Nat.le_of_ble_eq_true rfl, Nat.le_of_ble_eq_true rfl⟩ (fun v3 s4 => ?_)
  refine G.lstore_n (lv' := [(1, .long v3), (0, .ref (h 0))]) E dX7_mark_18 rfl (by decide) rfl ?_
  refine G.iconst (v := 0) E dX7_mark_19 (by decide) ?_
  refine G.istore_n (lv' := [(3, .int 0), (1, .long v3), (0, .ref (h 0))]) E dX7_mark_20 rfl (by decide) rfl ?_
  refine G.loc [2, 1, 0] rfl ?_
  refine gl_X7_mark_21 E (fun s14 => ?_) N _ _
  exact G.vret E dX7_mark_97 rfl rfl
set_option maxHeartbeats 4000000 in
set_option maxRecDepth 100000 in
theorem iw_X7_needWire_7 : ∀ w ∈ u_ws RX7 TX7 7, w ∈ wsX7_needWire := fun _ h => List.mem_cons_of_mem _ (List.mem_append_left _ (List.mem_append_left _ (List.mem_append_right _ h)))
set_option maxHeartbeats 4000000 in
set_option maxRecDepth 100000 in
theorem ia_X7_needWire_187 : ∀ w ∈ (vx_atS RX7 187 "java/lang/IndexOutOfBoundsException" ["java/lang/RuntimeException", "java/lang/Exception"]).filter goodWord, w ∈ wsX7_needWire := fun w h => List.mem_cons_of_mem _ (List.mem_append_right _ h)
abbrev rm_X7_needWire : Room := { frames := 8, cells := 1, slots := 6, locals := 120 }
noncomputable def f_X7_needWire (N : Nat) (σ : Wd) (a0 : Int32) : Option ((Nat ⊕ Unit) × Wd) :=
  bP (f_X4_hasWire N σ a0) fun v1 =>
  if v1 = 0 then (
    some (.inl 1, σ))
  else (
    some (.inr (), σ))
set_option maxHeartbeats 4000000 in
set_option maxRecDepth 100000 in
theorem c_X7_needWire {l : Launch} {D : va_G} {cy : Nat → ClassId} {h : Nat → Nat} {N : Nat} {σ : Wd} {a0 : Int32} {r : (Nat ⊕ Unit) × Wd} (hW : WF (wsC cy h) (adC h)) (hfl : l.stackTraces = false) (hr : f_X7_needWire N σ a0 = some r) : ConX l D cy (wsC cy h) (adC h) yX7_needWire wsX7_needWire rm_X7_needWire 1 6 [.ref (h 0), .int a0] (ooV r) σ r.2 := by
  refine ConX.of (lv0 := [(0, .ref (h 0)), (1, .int a0)]) (σ := σ) ooV (fun r => r.2) (by decide) rfl rfl (Nat.le_of_ble_eq_true rfl) rfl hW hfl hr (fun p e s m args below meth c E EX0 => ?_)
  unfold f_X7_needWire
  refine G.aload_n E dX7_needWire_0 0 rfl rfl ?_
  refine G.getR (T := TX7) (N := 7) (C := RX7) (q0 := 0) (i := 0) E dX7_needWire_1 iw_X7_needWire_7 (wsC_at0 _ _ _) rfl (by decide) rfl (List.mem_of_getElem? (i := 3) rfl) ?_
  refine G.iload_n E dX7_needWire_4 1 rfl rfl ?_
  refine G.callVi (n := 1) (T := TX4) (N := 8) (C := RX4) (a := h 1) (q0 := 1) (As := [.int a0]) E dX7_needWire_5 (fun _ hv => c_X4_hasWire E.wf hv) gX7_needWire_X4_hasWire rfl rfl rfl (by decide +kernel) ⟨Nat.le_of_ble_eq_true rfl, Nat.le_of_ble_eq_true rfl⟩ (wsC_at1 _ _ _) rfl rfl (Nat.le_of_ble_eq_true rfl) ⟨Nat.le_of_ble_eq_true rfl, Nat.le_of_ble_eq_true rfl⟩ (fun v1 => ?_)
  refine G.if_ne (tgt := 21) E dX7_needWire_8 (by decide) ?_ ?_
  · exact G.throwS (q := 1) (text := "there is no such wire") (cls := "java/lang/IndexOutOfBoundsException") (names := ["java/lang/RuntimeException", "java/lang/Exception"]) E EX0 (by decide +kernel) (by decide +kernel) (List.mem_of_getElem? (i := 1) rfl) (List.mem_of_getElem? (i := 2) rfl) (by decide +kernel) ia_X7_needWire_187 atg_187 (otw_183_187) dX7_needWire_11 dX7_needWire_14 dX7_needWire_15 dX7_needWire_17 dX7_needWire_20 ⟨Nat.le_of_ble_eq_true rfl, Nat.le_of_ble_eq_true rfl⟩ ⟨Nat.le_of_ble_eq_true rfl, Nat.le_of_ble_eq_true rfl⟩ rfl rfl rfl (Nat.le_of_ble_eq_true rfl) (Nat.le_of_ble_eq_true rfl)
  · exact G.x_vret E dX7_needWire_21 rfl (Nat.le_of_ble_eq_true rfl) (Nat.le_of_ble_eq_true rfl) rfl rfl
abbrev rm_X7_needWireOrNode : Room := { frames := 9, cells := 2, slots := 12, locals := 141 }
noncomputable def f_X7_needWireOrNode (N : Nat) (σ : Wd) (a0 : Int32) (a1 : Int32) : Option ((Nat ⊕ Unit) × Wd) :=
  bP (f_X7_isOfWire N a0) fun v1 =>
  if v1 = 0 then (
    bX (f_X7_needNode N σ a1) fun v2 s3 =>
    some (.inr (), s3))
  else (
    bX (f_X7_needWire N σ a1) fun v4 s5 =>
    some (.inr (), s5))
set_option maxHeartbeats 4000000 in
set_option maxRecDepth 100000 in
theorem c_X7_needWireOrNode {l : Launch} {D : va_G} {cy : Nat → ClassId} {h : Nat → Nat} {N : Nat} {σ : Wd} {a0 : Int32} {a1 : Int32} {r : (Nat ⊕ Unit) × Wd} (hW : WF (wsC cy h) (adC h)) (hfl : l.stackTraces = false) (hr : f_X7_needWireOrNode N σ a0 a1 = some r) : ConX l D cy (wsC cy h) (adC h) yX7_needWireOrNode wsX7_needWireOrNode rm_X7_needWireOrNode 2 12 [.ref (h 0), .int a0, .int a1] (ooV r) σ r.2 := by
  refine ConX.of (lv0 := [(0, .ref (h 0)), (1, .int a0), (2, .int a1)]) (σ := σ) ooV (fun r => r.2) (by decide) rfl rfl (Nat.le_of_ble_eq_true rfl) rfl hW hfl hr (fun p e s m args below meth c E EX0 => ?_)
  unfold f_X7_needWireOrNode
  refine G.iload_n E dX7_needWireOrNode_0 1 rfl rfl ?_
  refine G.callSi (n := 1) (As := [.int a0]) E dX7_needWireOrNode_1 (fun _ hv => c_X7_isOfWire E.wf hv) gX7_needWireOrNode_X7_isOfWire rfl rfl rfl (by decide +kernel) ⟨Nat.le_of_ble_eq_true rfl, Nat.le_of_ble_eq_true rfl⟩ rfl (Nat.le_of_ble_eq_true rfl) ⟨Nat.le_of_ble_eq_true rfl, Nat.le_of_ble_eq_true rfl⟩ (fun v1 => ?_)
  refine G.if_eq (tgt := 15) E dX7_needWireOrNode_4 (by decide) ?_ ?_
  · refine G.aload_n E dX7_needWireOrNode_15 0 rfl rfl ?_
    refine G.iload_n E dX7_needWireOrNode_16 2 rfl rfl ?_
    refine G.callXv (n := 1) (T := TX7) (N := 7) (C := RX7) (a := h 0) (q0 := 0) (As := [.int a1]) E EX0 dX7_needWireOrNode_17 (fun _ hv => c_X7_needNode E.wf EX0.1 hv) gX7_needWireOrNode_X7_needNode rfl rfl rfl (by decide +kernel) ⟨(Nat.le_of_ble_eq_true rfl), (Nat.le_of_ble_eq_true rfl)⟩ (wsC_at0 _ _ _) rfl rfl (Nat.le_of_ble_eq_true rfl) ⟨(Nat.le_of_ble_eq_true rfl), (Nat.le_of_ble_eq_true rfl)⟩ (Nat.le_of_ble_eq_true rfl) (Nat.le_of_ble_eq_true rfl) (fun _ _ => rfl) (fun v2 s3 => ?_)
    exact G.x_vret E dX7_needWireOrNode_20 rfl (Nat.le_of_ble_eq_true rfl) (Nat.le_of_ble_eq_true rfl) rfl rfl
  · refine G.aload_n E dX7_needWireOrNode_7 0 rfl rfl ?_
    refine G.iload_n E dX7_needWireOrNode_8 2 rfl rfl ?_
    refine G.callXv (n := 1) (T := TX7) (N := 7) (C := RX7) (a := h 0) (q0 := 0) (As := [.int a1]) E EX0 dX7_needWireOrNode_9 (fun _ hv => c_X7_needWire E.wf EX0.1 hv) gX7_needWireOrNode_X7_needWire rfl rfl rfl (by decide +kernel) ⟨(Nat.le_of_ble_eq_true rfl), (Nat.le_of_ble_eq_true rfl)⟩ (wsC_at0 _ _ _) rfl rfl (Nat.le_of_ble_eq_true rfl) ⟨(Nat.le_of_ble_eq_true rfl), (Nat.le_of_ble_eq_true rfl)⟩ (Nat.le_of_ble_eq_true rfl) (Nat.le_of_ble_eq_true rfl) (fun _ _ => rfl) (fun v4 s5 => ?_)
    refine G.goto (tgt := 20) E dX7_needWireOrNode_12 (by decide) ?_
    exact G.x_vret E dX7_needWireOrNode_20 rfl (Nat.le_of_ble_eq_true rfl) (Nat.le_of_ble_eq_true rfl) rfl rfl
set_option maxHeartbeats 4000000 in
set_option maxRecDepth 100000 in
theorem iw_X7_move_7 : ∀ w ∈ u_ws RX7 TX7 7, w ∈ wsX7_move := fun _ h => List.mem_cons_of_mem _ (List.mem_append_left _ (List.mem_append_left _ (List.mem_append_left _ (List.mem_append_left _ (List.mem_append_left _ (List.mem_append_left _ (List.mem_append_right _ h)))))))
set_option maxHeartbeats 4000000 in
set_option maxRecDepth 100000 in
theorem ia_X7_move_65 : ∀ w ∈ (vx_atS RX7 65 "java/lang/IllegalStateException" ["java/lang/RuntimeException", "java/lang/Exception"]).filter goodWord, w ∈ wsX7_move := fun w h => List.mem_cons_of_mem _ (List.mem_append_left _ (List.mem_append_right _ h))
set_option maxHeartbeats 4000000 in
set_option maxRecDepth 100000 in
theorem ia_X7_move_87 : ∀ w ∈ (vx_atS RX7 87 "java/lang/IllegalArgumentException" ["java/lang/RuntimeException", "java/lang/Exception"]).filter goodWord, w ∈ wsX7_move := fun w h => List.mem_cons_of_mem _ (List.mem_append_left _ (List.mem_append_left _ (List.mem_append_right _ h)))
abbrev rm_X7_move : Room := { frames := 10, cells := 3, slots := 18, locals := 163 }
noncomputable def f_X7_move (N : Nat) (σ : Wd) (a0 : Int32) (a1 : Int32) : Option ((Nat ⊕ Unit) × Wd) :=
  jn (fun (_u : Unit) => ((
    some (.inl 2, σ)) : Option ((Nat ⊕ Unit) × Wd))) fun j18 =>
  if a0 < 0 then (
    j18 ())
  else (
    if 5 < a0 then (
      j18 ())
    else (
      bX (f_X7_needWireOrNode N σ a0 a1) fun v1 s2 =>
      bS (f_X3_doIfPossible N s2 a0 a1) fun v3 s4 =>
      if v3 = 0 then (
        some (.inl 3, s4))
      else (
        some (.inr (), s4))))
set_option maxHeartbeats 4000000 in
set_option maxRecDepth 100000 in
theorem c_X7_move {l : Launch} {D : va_G} {cy : Nat → ClassId} {h : Nat → Nat} {N : Nat} {σ : Wd} {a0 : Int32} {a1 : Int32} {r : (Nat ⊕ Unit) × Wd} (hW : WF (wsC cy h) (adC h)) (hfl : l.stackTraces = false) (hr : f_X7_move N σ a0 a1 = some r) : ConX l D cy (wsC cy h) (adC h) yX7_move wsX7_move rm_X7_move 3 18 [.ref (h 0), .int a0, .int a1] (ooV r) σ r.2 := by
  refine ConX.of (lv0 := [(0, .ref (h 0)), (1, .int a0), (2, .int a1)]) (σ := σ) ooV (fun r => r.2) (by decide) rfl rfl (Nat.le_of_ble_eq_true rfl) rfl hW hfl hr (fun p e s m args below meth c E EX0 => ?_)
  unfold f_X7_move
  refine G.iload_n E dX7_move_0 1 rfl rfl ?_
  refine G.jn (P := fun j => ∀ (_u : Unit), G p l e (headSpec wsX7_move rm_X7_move).room s m args below meth c 3 0 0 D (wsC cy h) (adC h) (QX D (wsC cy h) (adC h) below args s 3 18 ooV (fun r => r.2)) 18 [] [] σ (j _u)) ?_ (fun j18 hj18 => ?_)
  · intro _u
    exact G.throwS (q := 2) (text := "a kind is LOOP to STAR") (cls := "java/lang/IllegalArgumentException") (names := ["java/lang/RuntimeException", "java/lang/Exception"]) E EX0 (by decide +kernel) (by decide +kernel) (List.mem_of_getElem? (i := 1) rfl) (List.mem_of_getElem? (i := 2) rfl) (by decide +kernel) ia_X7_move_87 atg_87 (otw_83_87) dX7_move_18 dX7_move_21 dX7_move_22 dX7_move_24 dX7_move_27 ⟨Nat.le_of_ble_eq_true rfl, Nat.le_of_ble_eq_true rfl⟩ ⟨Nat.le_of_ble_eq_true rfl, Nat.le_of_ble_eq_true rfl⟩ rfl rfl rfl (Nat.le_of_ble_eq_true rfl) (Nat.le_of_ble_eq_true rfl)
  · refine G.if_lt (tgt := 18) E dX7_move_1 (by decide) ?_ ?_
    · refine G.loc [] rfl ?_
      exact hj18 ()
    · refine G.iload_n E dX7_move_4 1 rfl rfl ?_
      refine G.iconst (v := 5) E dX7_move_5 (by decide) ?_
      refine G.icmp_gt (tgt := 18) E dX7_move_6 (by decide) ?_ ?_
      · refine G.loc [] rfl ?_
        exact hj18 ()
      · refine G.aload_n E dX7_move_9 0 rfl rfl ?_
        refine G.iload_n E dX7_move_10 1 rfl rfl ?_
        refine G.iload_n E dX7_move_11 2 rfl rfl ?_
        refine G.callXv (n := 2) (T := TX7) (N := 7) (C := RX7) (a := h 0) (q0 := 0) (As := [.int a0, .int a1]) E EX0 dX7_move_12 (fun _ hv => c_X7_needWireOrNode E.wf EX0.1 hv) gX7_move_X7_needWireOrNode rfl rfl rfl (by decide +kernel) ⟨(Nat.le_of_ble_eq_true rfl), (Nat.le_of_ble_eq_true rfl)⟩ (wsC_at0 _ _ _) rfl rfl (Nat.le_of_ble_eq_true rfl) ⟨(Nat.le_of_ble_eq_true rfl), (Nat.le_of_ble_eq_true rfl)⟩ (Nat.le_of_ble_eq_true rfl) (Nat.le_of_ble_eq_true rfl) (fun _ _ => rfl) (fun v1 s2 => ?_)
        refine G.goto (tgt := 28) E dX7_move_15 (by decide) ?_
        refine G.aload_n E dX7_move_28 0 rfl rfl ?_
        refine G.getR (T := TX7) (N := 7) (C := RX7) (q0 := 0) (i := 4) E dX7_move_29 iw_X7_move_7 (wsC_at0 _ _ _) rfl (by decide) rfl (List.mem_of_getElem? (i := 5) rfl) ?_
        refine G.iload_n E dX7_move_32 1 rfl rfl ?_
        refine G.iload_n E dX7_move_33 2 rfl rfl ?_
        refine G.callVis (n := 2) (T := TX3) (N := 10) (C := RX3) (a := h 28) (q0 := 28) (As := [.int a0, .int a1]) E dX7_move_34 (fun _ _ hv => c_X3_doIfPossible E.wf hv) gX7_move_X3_doIfPossible rfl rfl rfl (by decide +kernel) ⟨Nat.le_of_ble_eq_true rfl, Nat.le_of_ble_eq_true rfl⟩ (wsC_at28 _ _ _) rfl rfl (Nat.le_of_ble_eq_true rfl) ⟨Nat.le_of_ble_eq_true rfl, Nat.le_of_ble_eq_true rfl⟩ (fun v3 s4 => ?_)
        refine G.if_ne (tgt := 50) E dX7_move_37 (by decide) ?_ ?_
        · exact G.throwS (q := 3) (text := "the move is not possible") (cls := "java/lang/IllegalStateException") (names := ["java/lang/RuntimeException", "java/lang/Exception"]) E EX0 (by decide +kernel) (by decide +kernel) (List.mem_of_getElem? (i := 3) rfl) (List.mem_of_getElem? (i := 4) rfl) (by decide +kernel) ia_X7_move_65 atg_65 (otw_61_65) dX7_move_40 dX7_move_43 dX7_move_44 dX7_move_46 dX7_move_49 ⟨Nat.le_of_ble_eq_true rfl, Nat.le_of_ble_eq_true rfl⟩ ⟨Nat.le_of_ble_eq_true rfl, Nat.le_of_ble_eq_true rfl⟩ rfl rfl rfl (Nat.le_of_ble_eq_true rfl) (Nat.le_of_ble_eq_true rfl)
        · exact G.x_vret E dX7_move_50 rfl (Nat.le_of_ble_eq_true rfl) (Nat.le_of_ble_eq_true rfl) rfl rfl
set_option maxHeartbeats 4000000 in
set_option maxRecDepth 100000 in
theorem iw_X7_node_7 : ∀ w ∈ u_ws RX7 TX7 7, w ∈ wsX7_node := fun _ h => List.mem_cons_of_mem _ (List.mem_append_left _ (List.mem_append_left _ (List.mem_append_left _ (List.mem_append_right _ h))))
set_option maxHeartbeats 4000000 in
set_option maxRecDepth 100000 in
theorem ia_X7_node_65 : ∀ w ∈ (vx_atS RX7 65 "java/lang/IllegalStateException" ["java/lang/RuntimeException", "java/lang/Exception"]).filter goodWord, w ∈ wsX7_node := fun w h => List.mem_cons_of_mem _ (List.mem_append_right _ h)
abbrev rm_X7_node : Room := { frames := 8, cells := 1, slots := 6, locals := 120 }
noncomputable def f_X7_node (N : Nat) (σ : Wd) (a0 : Int32) : Option ((Nat ⊕ Int32) × Wd) :=
  bP (f_X4_hasRoom N σ 1 0) fun v1 =>
  if v1 = 0 then (
    some (.inl 3, σ))
  else (
    bP (f_X3_forget N σ) fun s2 =>
    bS (f_X4_addNode N s2 a0) fun v3 s4 =>
    some (.inr v3, s4))
set_option maxHeartbeats 4000000 in
set_option maxRecDepth 100000 in
theorem c_X7_node {l : Launch} {D : va_G} {cy : Nat → ClassId} {h : Nat → Nat} {N : Nat} {σ : Wd} {a0 : Int32} {r : (Nat ⊕ Int32) × Wd} (hW : WF (wsC cy h) (adC h)) (hfl : l.stackTraces = false) (hr : f_X7_node N σ a0 = some r) : ConX l D cy (wsC cy h) (adC h) yX7_node wsX7_node rm_X7_node 1 6 [.ref (h 0), .int a0] (ooI r) σ r.2 := by
  refine ConX.of (lv0 := [(0, .ref (h 0)), (1, .int a0)]) (σ := σ) ooI (fun r => r.2) (by decide) rfl rfl (Nat.le_of_ble_eq_true rfl) rfl hW hfl hr (fun p e s m args below meth c E EX0 => ?_)
  unfold f_X7_node
  refine G.aload_n E dX7_node_0 0 rfl rfl ?_
  refine G.getR (T := TX7) (N := 7) (C := RX7) (q0 := 0) (i := 0) E dX7_node_1 iw_X7_node_7 (wsC_at0 _ _ _) rfl (by decide) rfl (List.mem_of_getElem? (i := 3) rfl) ?_
  refine G.iconst (v := 1) E dX7_node_4 (by decide) ?_
  refine G.iconst (v := 0) E dX7_node_5 (by decide) ?_
  refine G.callVi (n := 2) (T := TX4) (N := 8) (C := RX4) (a := h 1) (q0 := 1) (As := [.int 1, .int 0]) E dX7_node_6 (fun _ hv => c_X4_hasRoom E.wf hv) gX7_node_X4_hasRoom rfl rfl rfl (by decide +kernel) ⟨Nat.le_of_ble_eq_true rfl, Nat.le_of_ble_eq_true rfl⟩ (wsC_at1 _ _ _) rfl rfl (Nat.le_of_ble_eq_true rfl) ⟨Nat.le_of_ble_eq_true rfl, Nat.le_of_ble_eq_true rfl⟩ (fun v1 => ?_)
  refine G.if_ne (tgt := 22) E dX7_node_9 (by decide) ?_ ?_
  · exact G.throwS (q := 3) (text := "there were 7 nodes") (cls := "java/lang/IllegalStateException") (names := ["java/lang/RuntimeException", "java/lang/Exception"]) E EX0 (by decide +kernel) (by decide +kernel) (List.mem_of_getElem? (i := 1) rfl) (List.mem_of_getElem? (i := 2) rfl) (by decide +kernel) ia_X7_node_65 atg_65 (otw_61_65) dX7_node_12 dX7_node_15 dX7_node_16 dX7_node_18 dX7_node_21 ⟨Nat.le_of_ble_eq_true rfl, Nat.le_of_ble_eq_true rfl⟩ ⟨Nat.le_of_ble_eq_true rfl, Nat.le_of_ble_eq_true rfl⟩ rfl rfl rfl (Nat.le_of_ble_eq_true rfl) (Nat.le_of_ble_eq_true rfl)
  · refine G.aload_n E dX7_node_22 0 rfl rfl ?_
    refine G.getR (T := TX7) (N := 7) (C := RX7) (q0 := 0) (i := 4) E dX7_node_23 iw_X7_node_7 (wsC_at0 _ _ _) rfl (by decide) rfl (List.mem_of_getElem? (i := 4) rfl) ?_
    refine G.callVv (n := 0) (T := TX3) (N := 10) (C := RX3) (a := h 28) (q0 := 28) (As := []) E dX7_node_26 (fun _ hv => c_X3_forget E.wf hv) gX7_node_X3_forget rfl rfl rfl (by decide +kernel) ⟨Nat.le_of_ble_eq_true rfl, Nat.le_of_ble_eq_true rfl⟩ (wsC_at28 _ _ _) rfl rfl (Nat.le_of_ble_eq_true rfl) ⟨Nat.le_of_ble_eq_true rfl, Nat.le_of_ble_eq_true rfl⟩ (fun s2 => ?_)
    refine G.aload_n E dX7_node_29 0 rfl rfl ?_
    refine G.getR (T := TX7) (N := 7) (C := RX7) (q0 := 0) (i := 0) E dX7_node_30 iw_X7_node_7 (wsC_at0 _ _ _) rfl (by decide) rfl (List.mem_of_getElem? (i := 3) rfl) ?_
    refine G.iload_n E dX7_node_33 1 rfl rfl ?_
    refine G.callVis (n := 1) (T := TX4) (N := 8) (C := RX4) (a := h 1) (q0 := 1) (As := [.int a0]) E dX7_node_34 (fun _ _ hv => c_X4_addNode E.wf hv) gX7_node_X4_addNode rfl rfl rfl (by decide +kernel) ⟨Nat.le_of_ble_eq_true rfl, Nat.le_of_ble_eq_true rfl⟩ (wsC_at1 _ _ _) rfl rfl (Nat.le_of_ble_eq_true rfl) ⟨Nat.le_of_ble_eq_true rfl, Nat.le_of_ble_eq_true rfl⟩ (fun v3 s4 => ?_)
    exact G.x_iret E dX7_node_37 rfl (Nat.le_of_ble_eq_true rfl) (Nat.le_of_ble_eq_true rfl) rfl rfl
set_option maxHeartbeats 4000000 in
set_option maxRecDepth 100000 in
theorem iw_X7_nodes_4 : ∀ w ∈ u_ws RX4 TX4 8, w ∈ wsX7_nodes := fun _ h => List.mem_cons_of_mem _ (List.mem_append_right _ h)
set_option maxHeartbeats 4000000 in
set_option maxRecDepth 100000 in
theorem iw_X7_nodes_7 : ∀ w ∈ u_ws RX7 TX7 7, w ∈ wsX7_nodes := fun _ h => List.mem_cons_of_mem _ (List.mem_append_left _ (List.mem_append_right _ h))
abbrev rm_X7_nodes : Room := { frames := 0, cells := 0, slots := 0, locals := 0 }
noncomputable def f_X7_nodes (N : Nat) (σ : Wd) : Option (Int32) :=
  gI σ 1 0 fun v1 =>
  some v1
set_option maxHeartbeats 4000000 in
set_option maxRecDepth 100000 in
theorem c_X7_nodes {l : Launch} {D : va_G} {cy : Nat → ClassId} {h : Nat → Nat} {N : Nat} {σ : Wd} {r : Int32} (hW : WF (wsC cy h) (adC h)) (hr : f_X7_nodes N σ = some r) : Con l D cy (wsC cy h) (adC h) yX7_nodes wsX7_nodes rm_X7_nodes 0 0 [.ref (h 0)] (some (.int r)) σ σ := by
  refine Con.of (ρ := Int32) (lv0 := [(0, .ref (h 0))]) (σ := σ) (fun r : Int32 => some (.int r)) (fun _ => σ) (by decide) rfl rfl (Nat.le_of_ble_eq_true rfl) rfl hW hr (fun p e s m args below meth c E => ?_)
  unfold f_X7_nodes
  refine G.aload_n E dX7_nodes_0 0 rfl rfl ?_
  refine G.getR (T := TX7) (N := 7) (C := RX7) (q0 := 0) (i := 0) E dX7_nodes_1 iw_X7_nodes_7 (wsC_at0 _ _ _) rfl (by decide) rfl (List.mem_of_getElem? (i := 1) rfl) ?_
  refine G.getI (T := TX4) (N := 8) (C := RX4) (q0 := 1) (i := 0) E dX7_nodes_4 iw_X7_nodes_4 (wsC_at1 _ _ _) rfl (by decide) rfl (List.mem_of_getElem? (i := 2) rfl) (fun v1 => ?_)
  exact G.iret E dX7_nodes_7 rfl rfl
set_option maxHeartbeats 4000000 in
set_option maxRecDepth 100000 in
theorem iw_X7_upperOfPotential_4 : ∀ w ∈ u_ws RX4 TX4 8, w ∈ wsX7_upperOfPotential := fun _ h => List.mem_cons_of_mem _ (List.mem_append_left _ (List.mem_append_right _ h))
set_option maxHeartbeats 4000000 in
set_option maxRecDepth 100000 in
theorem iw_X7_upperOfPotential_7 : ∀ w ∈ u_ws RX7 TX7 7, w ∈ wsX7_upperOfPotential := fun _ h => List.mem_cons_of_mem _ (List.mem_append_left _ (List.mem_append_left _ (List.mem_append_right _ h)))
abbrev rm_X7_upperOfPotential : Room := { frames := 14, cells := 0, slots := 0, locals := 358 }
noncomputable def fl_X7_upperOfPotential_5 {ρ : Type} (N : Nat) (x1 : Int32) (K : Int64 → Wd → Option ρ) : Nat → Int64 → Int32 → Wd → Option ρ
  | 0, _, _, _ => none
  | n + 1, x2, x4, s0 =>
    if 7 ≤ x4 then (
      K x2 s0)
    else (
      bP (f_X4_hasEdge N s0 x4) fun v1 =>
      jn (fun (v2 : Int64) (s3 : Wd) => ((
        fl_X7_upperOfPotential_5 N x1 K n v2 (x4 + 1) s3) : Option (ρ))) fun j51 =>
      if v1 = 0 then (
        j51 x2 s0)
      else (
        bP (f_X7_valueOf N s0 x4) fun v4 =>
        gI s0 1 1 fun v5 =>
        bS (f_X0_countWith N s0 v5 x1 x4) fun v6 s7 =>
        lL (x2 + (v4 * v6)) fun v8 =>
        j51 v8 s7))
set_option maxHeartbeats 4000000 in
set_option maxRecDepth 100000 in
theorem gl_X7_upperOfPotential_5 {ρ : Type} {Q : ρ → State → Prop} {N : Nat} {x1 : Int32} {K : Int64 → Wd → Option ρ} (E : EV p s m args meth c cX7_upperOfPotential 5 RX7 wsX7_upperOfPotential (some .long) D cy (wsC cy h) (adC h)) (hK : ∀ (x2' : Int64) (s' : Wd), G p l e (headSpec wsX7_upperOfPotential rm_X7_upperOfPotential).room s m args below meth c 5 0 0 D (wsC cy h) (adC h) Q 57 [(2, .long (x2'))] [] s' (K x2' s')) :
  ∀ (n : Nat) (x2 : Int64) (x4 : Int32) (s0 : Wd), G p l e (headSpec wsX7_upperOfPotential rm_X7_upperOfPotential).room s m args below meth c 5 0 0 D (wsC cy h) (adC h) Q 5 [(0, .ref (h 0)), (1, .int x1), (2, .long x2), (4, .int x4)] [] s0 (fl_X7_upperOfPotential_5 N x1 K n x2 x4 s0) := by
  intro n
  induction n with
  | zero => intros; exact G.no
  | succ n ih =>
    intro x2 x4 s0
    rw [fl_X7_upperOfPotential_5]
    refine G.iload E dX7_upperOfPotential_5 3 rfl ?_
    refine G.bipush (v := 7) E dX7_upperOfPotential_7 (by decide) ?_
    refine G.icmp_ge (tgt := 57) E dX7_upperOfPotential_9 (by decide) ?_ ?_
    · refine G.loc [2] rfl ?_
      exact hK x2 s0
    · refine G.aload_n E dX7_upperOfPotential_12 0 rfl rfl ?_
      refine G.getR (T := TX7) (N := 7) (C := RX7) (q0 := 0) (i := 0) E dX7_upperOfPotential_13 iw_X7_upperOfPotential_7 (wsC_at0 _ _ _) rfl (by decide) rfl (List.mem_of_getElem? (i := 1) rfl) ?_
      refine G.iload E dX7_upperOfPotential_16 3 rfl ?_
      refine G.callVi (n := 1) (T := TX4) (N := 8) (C := RX4) (a := h 1) (q0 := 1) (As := [.int x4]) E dX7_upperOfPotential_18 (fun _ hv => c_X4_hasEdge E.wf hv) gX7_upperOfPotential_X4_hasEdge rfl rfl rfl (by decide +kernel) ⟨Nat.le_of_ble_eq_true rfl, Nat.le_of_ble_eq_true rfl⟩ (wsC_at1 _ _ _) rfl rfl (Nat.le_of_ble_eq_true rfl) ⟨Nat.le_of_ble_eq_true rfl, Nat.le_of_ble_eq_true rfl⟩ (fun v1 => ?_)
      refine G.jn (P := fun j => ∀ (v2 : Int64) (s3 : Wd), G p l e (headSpec wsX7_upperOfPotential rm_X7_upperOfPotential).room s m args below meth c 5 0 0 D (wsC cy h) (adC h) Q 51 [(0, .ref (h 0)), (1, .int x1), (2, .long v2), (4, .int x4)] [] s3 (j v2 s3)) ?_ (fun j51 hj51 => ?_)
      · intro v2 s3
        refine G.iinc (v := x4 + 1) (lv' := [(4, .int (x4 + 1)), (0, .ref (h 0)), (1, .int x1), (2, .long v2)]) E dX7_upperOfPotential_51 3 rfl rfl (by decide) rfl ?_
        refine G.goto (tgt := 5) E dX7_upperOfPotential_54 (by decide) ?_
        refine G.loc [1, 2, 3, 0] rfl ?_
        exact ih v2 (x4 + 1) s3
      · refine G.if_eq (tgt := 51) E dX7_upperOfPotential_21 (by decide) ?_ ?_
        · refine G.loc [0, 1, 2, 3] rfl ?_
          exact hj51 x2 s0
        · refine G.lload_n E dX7_upperOfPotential_24 2 rfl rfl ?_
          refine G.aload_n E dX7_upperOfPotential_25 0 rfl rfl ?_
          refine G.iload E dX7_upperOfPotential_26 3 rfl ?_
          refine G.callVl (n := 1) (T := TX7) (N := 7) (C := RX7) (a := h 0) (q0 := 0) (As := [.int x4]) E dX7_upperOfPotential_28 (fun _ hv => c_X7_valueOf E.wf hv) gX7_upperOfPotential_X7_valueOf rfl rfl rfl (by decide +kernel) ⟨Nat.le_of_ble_eq_true rfl, Nat.le_of_ble_eq_true rfl⟩ (wsC_at0 _ _ _) rfl rfl (Nat.le_of_ble_eq_true rfl) ⟨Nat.le_of_ble_eq_true rfl, Nat.le_of_ble_eq_true rfl⟩ (fun v4 => ?_)
          refine G.aload_n E dX7_upperOfPotential_31 0 rfl rfl ?_
          refine G.getR (T := TX7) (N := 7) (C := RX7) (q0 := 0) (i := 1) E dX7_upperOfPotential_32 iw_X7_upperOfPotential_7 (wsC_at0 _ _ _) rfl (by decide) rfl (List.mem_of_getElem? (i := 2) rfl) ?_
          refine G.aload_n E dX7_upperOfPotential_35 0 rfl rfl ?_
          refine G.getR (T := TX7) (N := 7) (C := RX7) (q0 := 0) (i := 0) E dX7_upperOfPotential_36 iw_X7_upperOfPotential_7 (wsC_at0 _ _ _) rfl (by decide) rfl (List.mem_of_getElem? (i := 1) rfl) ?_
          refine G.getI (T := TX4) (N := 8) (C := RX4) (q0 := 1) (i := 1) E dX7_upperOfPotential_39 iw_X7_upperOfPotential_4 (wsC_at1 _ _ _) rfl (by decide) rfl (List.mem_of_getElem? (i := 3) rfl) (fun v5 => ?_)
          refine G.iload_n E dX7_upperOfPotential_42 1 rfl rfl ?_
          refine G.iload E dX7_upperOfPotential_43 3 rfl ?_
          refine G.callVls (n := 3) (T := TX0) (N := 9) (C := RX0) (a := h 5) (q0 := 5) (As := [.int v5, .int x1, .int x4]) E dX7_upperOfPotential_45 (fun _ _ hv => c_X0_countWith E.wf hv) gX7_upperOfPotential_X0_countWith rfl rfl rfl (by decide +kernel) ⟨Nat.le_of_ble_eq_true rfl, Nat.le_of_ble_eq_true rfl⟩ (wsC_at5 _ _ _) rfl rfl (Nat.le_of_ble_eq_true rfl) ⟨Nat.le_of_ble_eq_true rfl, Nat.le_of_ble_eq_true rfl⟩ (fun v6 s7 => ?_)
          refine G.lmul E dX7_upperOfPotential_48 ?_
          refine G.ladd E dX7_upperOfPotential_49 ?_
          refine G.letL (fun v8 => ?_)
          refine G.lstore_n (lv' := [(2, .long v8), (0, .ref (h 0)), (1, .int x1), (4, .int x4)]) E dX7_upperOfPotential_50 rfl (by decide) rfl ?_
          refine G.loc [1, 2, 0, 3] rfl ?_
          exact hj51 v8 s7
noncomputable def f_X7_upperOfPotential (N : Nat) (σ : Wd) (a0 : Int32) : Option (Int64 × Wd) :=
  fl_X7_upperOfPotential_5 N a0 (fun v9 s10 =>
    some (v9, s10)) N 0 0 σ
set_option maxHeartbeats 4000000 in
set_option maxRecDepth 100000 in
theorem c_X7_upperOfPotential {l : Launch} {D : va_G} {cy : Nat → ClassId} {h : Nat → Nat} {N : Nat} {σ : Wd} {a0 : Int32} {r : Int64} {σ1 : Wd} (hW : WF (wsC cy h) (adC h)) (hr : f_X7_upperOfPotential N σ a0 = some (r, σ1)) : Con l D cy (wsC cy h) (adC h) yX7_upperOfPotential wsX7_upperOfPotential rm_X7_upperOfPotential 0 0 [.ref (h 0), .int a0] (some (.long r)) σ σ1 := by
  refine Con.of (ρ := Int64 × Wd) (lv0 := [(0, .ref (h 0)), (1, .int a0)]) (σ := σ) (fun r : Int64 × Wd => some (.long r.1)) (fun r => r.2) (by decide) rfl rfl (Nat.le_of_ble_eq_true rfl) rfl hW hr (fun p e s m args below meth c E => ?_)
  unfold f_X7_upperOfPotential
  refine G.lconst (v := 0) E dX7_upperOfPotential_0 (by decide) ?_
  refine G.lstore_n (lv' := [(2, .long 0), (0, .ref (h 0)), (1, .int a0)]) E dX7_upperOfPotential_1 rfl (by decide) rfl ?_
  refine G.iconst (v := 0) E dX7_upperOfPotential_2 (by decide) ?_
  refine G.istore (lv' := [(4, .int 0), (2, .long 0), (0, .ref (h 0)), (1, .int a0)]) E dX7_upperOfPotential_3 (by decide) rfl ?_
  refine G.loc [2, 3, 1, 0] rfl ?_
  refine gl_X7_upperOfPotential_5 E (fun v9 s10 => ?_) N _ _ _
  refine G.lload_n E dX7_upperOfPotential_57 0 rfl rfl ?_
  exact G.lret E dX7_upperOfPotential_58 rfl rfl
set_option maxHeartbeats 4000000 in
set_option maxRecDepth 100000 in
theorem iw_X7_potential_7 : ∀ w ∈ u_ws RX7 TX7 7, w ∈ wsX7_potential := fun _ h => List.mem_cons_of_mem _ (List.mem_append_left _ (List.mem_append_left _ (List.mem_append_left _ (List.mem_append_right _ h))))
abbrev rm_X7_potential : Room := { frames := 16, cells := 1, slots := 6, locals := 399 }
noncomputable def f_X7_potential (N : Nat) (σ : Wd) (a0 : Int32) (a1 : Int32) : Option ((Nat ⊕ Int64) × Wd) :=
  bX (f_X7_needNode N σ a0) fun v1 s2 =>
  bP (f_X4_hasEdge N s2 a0) fun v3 =>
  if v3 = 0 then (
    bS (f_X7_upperOfPotential N s2 a0) fun v4 s5 =>
    bS (f_X7_countRest N s5) fun v6 s7 =>
    bP (f_X7_partOf N v4 v6 a1) fun v8 =>
    some (.inr v8, s7))
  else (
    bP (f_X7_valueOf N s2 a0) fun v9 =>
    bP (f_X7_partOf N v9 1 a1) fun v10 =>
    some (.inr v10, s2))
set_option maxHeartbeats 4000000 in
set_option maxRecDepth 100000 in
theorem c_X7_potential {l : Launch} {D : va_G} {cy : Nat → ClassId} {h : Nat → Nat} {N : Nat} {σ : Wd} {a0 : Int32} {a1 : Int32} {r : (Nat ⊕ Int64) × Wd} (hW : WF (wsC cy h) (adC h)) (hfl : l.stackTraces = false) (hr : f_X7_potential N σ a0 a1 = some r) : ConX l D cy (wsC cy h) (adC h) yX7_potential wsX7_potential rm_X7_potential 1 6 [.ref (h 0), .int a0, .int a1] (ooL r) σ r.2 := by
  refine ConX.of (lv0 := [(0, .ref (h 0)), (1, .int a0), (2, .int a1)]) (σ := σ) ooL (fun r => r.2) (by decide) rfl rfl (Nat.le_of_ble_eq_true rfl) rfl hW hfl hr (fun p e s m args below meth c E EX0 => ?_)
  unfold f_X7_potential
  refine G.aload_n E dX7_potential_0 0 rfl rfl ?_
  refine G.iload_n E dX7_potential_1 1 rfl rfl ?_
  refine G.callXv (n := 1) (T := TX7) (N := 7) (C := RX7) (a := h 0) (q0 := 0) (As := [.int a0]) E EX0 dX7_potential_2 (fun _ hv => c_X7_needNode E.wf EX0.1 hv) gX7_potential_X7_needNode rfl rfl rfl (by decide +kernel) ⟨(Nat.le_of_ble_eq_true rfl), (Nat.le_of_ble_eq_true rfl)⟩ (wsC_at0 _ _ _) rfl rfl (Nat.le_of_ble_eq_true rfl) ⟨(Nat.le_of_ble_eq_true rfl), (Nat.le_of_ble_eq_true rfl)⟩ (Nat.le_of_ble_eq_true rfl) (Nat.le_of_ble_eq_true rfl) (fun _ _ => rfl) (fun v1 s2 => ?_)
  refine G.aload_n E dX7_potential_5 0 rfl rfl ?_
  refine G.getR (T := TX7) (N := 7) (C := RX7) (q0 := 0) (i := 0) E dX7_potential_6 iw_X7_potential_7 (wsC_at0 _ _ _) rfl (by decide) rfl (List.mem_of_getElem? (i := 1) rfl) ?_
  refine G.iload_n E dX7_potential_9 1 rfl rfl ?_
  refine G.callVi (n := 1) (T := TX4) (N := 8) (C := RX4) (a := h 1) (q0 := 1) (As := [.int a0]) E dX7_potential_10 (fun _ hv => c_X4_hasEdge E.wf hv) gX7_potential_X4_hasEdge rfl rfl rfl (by decide +kernel) ⟨Nat.le_of_ble_eq_true rfl, Nat.le_of_ble_eq_true rfl⟩ (wsC_at1 _ _ _) rfl rfl (Nat.le_of_ble_eq_true rfl) ⟨Nat.le_of_ble_eq_true rfl, Nat.le_of_ble_eq_true rfl⟩ (fun v3 => ?_)
  refine G.if_eq (tgt := 27) E dX7_potential_13 (by decide) ?_ ?_
  · refine G.aload_n E dX7_potential_27 0 rfl rfl ?_
    refine G.iload_n E dX7_potential_28 1 rfl rfl ?_
    refine G.callVls (n := 1) (T := TX7) (N := 7) (C := RX7) (a := h 0) (q0 := 0) (As := [.int a0]) E dX7_potential_29 (fun _ _ hv => c_X7_upperOfPotential E.wf hv) gX7_potential_X7_upperOfPotential rfl rfl rfl (by decide +kernel) ⟨Nat.le_of_ble_eq_true rfl, Nat.le_of_ble_eq_true rfl⟩ (wsC_at0 _ _ _) rfl rfl (Nat.le_of_ble_eq_true rfl) ⟨Nat.le_of_ble_eq_true rfl, Nat.le_of_ble_eq_true rfl⟩ (fun v4 s5 => ?_)
    refine G.aload_n E dX7_potential_32 0 rfl rfl ?_
    refine G.callVls (n := 0) (T := TX7) (N := 7) (C := RX7) (a := h 0) (q0 := 0) (As := []) E dX7_potential_33 (fun _ _ hv => c_X7_countRest E.wf hv) gX7_potential_X7_countRest rfl rfl rfl (by decide +kernel) ⟨Nat.le_of_ble_eq_true rfl, Nat.le_of_ble_eq_true rfl⟩ (wsC_at0 _ _ _) rfl rfl (Nat.le_of_ble_eq_true rfl) ⟨Nat.le_of_ble_eq_true rfl, Nat.le_of_ble_eq_true rfl⟩ (fun v6 s7 => ?_)
    refine G.iload_n E dX7_potential_36 2 rfl rfl ?_
    refine G.callSl (n := 3) (As := [.long v4, .long v6, .int a1]) E dX7_potential_37 (fun _ hv => c_X7_partOf E.wf hv) gX7_potential_X7_partOf rfl rfl rfl (by decide +kernel) ⟨Nat.le_of_ble_eq_true rfl, Nat.le_of_ble_eq_true rfl⟩ rfl (Nat.le_of_ble_eq_true rfl) ⟨Nat.le_of_ble_eq_true rfl, Nat.le_of_ble_eq_true rfl⟩ (fun v8 => ?_)
    exact G.x_lret E dX7_potential_40 rfl (Nat.le_of_ble_eq_true rfl) (Nat.le_of_ble_eq_true rfl) rfl rfl
  · refine G.aload_n E dX7_potential_16 0 rfl rfl ?_
    refine G.iload_n E dX7_potential_17 1 rfl rfl ?_
    refine G.callVl (n := 1) (T := TX7) (N := 7) (C := RX7) (a := h 0) (q0 := 0) (As := [.int a0]) E dX7_potential_18 (fun _ hv => c_X7_valueOf E.wf hv) gX7_potential_X7_valueOf rfl rfl rfl (by decide +kernel) ⟨Nat.le_of_ble_eq_true rfl, Nat.le_of_ble_eq_true rfl⟩ (wsC_at0 _ _ _) rfl rfl (Nat.le_of_ble_eq_true rfl) ⟨Nat.le_of_ble_eq_true rfl, Nat.le_of_ble_eq_true rfl⟩ (fun v9 => ?_)
    refine G.lconst (v := 1) E dX7_potential_21 (by decide) ?_
    refine G.iload_n E dX7_potential_22 2 rfl rfl ?_
    refine G.callSl (n := 3) (As := [.long v9, .long 1, .int a1]) E dX7_potential_23 (fun _ hv => c_X7_partOf E.wf hv) gX7_potential_X7_partOf rfl rfl rfl (by decide +kernel) ⟨Nat.le_of_ble_eq_true rfl, Nat.le_of_ble_eq_true rfl⟩ rfl (Nat.le_of_ble_eq_true rfl) ⟨Nat.le_of_ble_eq_true rfl, Nat.le_of_ble_eq_true rfl⟩ (fun v10 => ?_)
    exact G.x_lret E dX7_potential_26 rfl (Nat.le_of_ble_eq_true rfl) (Nat.le_of_ble_eq_true rfl) rfl rfl
set_option maxHeartbeats 4000000 in
set_option maxRecDepth 100000 in
theorem iw_X7_power_7 : ∀ w ∈ u_ws RX7 TX7 7, w ∈ wsX7_power := fun _ h => List.mem_cons_of_mem _ (List.mem_append_left _ (List.mem_append_left _ (List.mem_append_right _ h)))
abbrev rm_X7_power : Room := { frames := 16, cells := 0, slots := 0, locals := 404 }
noncomputable def fl_X7_power_5 {ρ : Type} (N : Nat) (x1 : Int32) (K : Int64 → Wd → Option ρ) : Nat → Int64 → Int32 → Wd → Option ρ
  | 0, _, _, _ => none
  | n + 1, x2, x4, s0 =>
    if 7 ≤ x4 then (
      K x2 s0)
    else (
      bP (f_X4_hasEdge N s0 x4) fun v1 =>
      jn (fun (v2 : Int64) (s3 : Wd) => ((
        fl_X7_power_5 N x1 K n v2 (x4 + 1) s3) : Option (ρ))) fun j40 =>
      if v1 = 0 then (
        j40 x2 s0)
      else (
        bP (f_X7_valueOf N s0 x4) fun v4 =>
        bS (f_X7_upperOfCurrent N s0 x4) fun v5 s6 =>
        lL (x2 + (v4 * v5)) fun v7 =>
        j40 v7 s6))
set_option maxHeartbeats 4000000 in
set_option maxRecDepth 100000 in
theorem gl_X7_power_5 {ρ : Type} {Q : ρ → State → Prop} {N : Nat} {x1 : Int32} {K : Int64 → Wd → Option ρ} (E : EV p s m args meth c cX7_power 5 RX7 wsX7_power (some .long) D cy (wsC cy h) (adC h)) (hK : ∀ (x2' : Int64) (s' : Wd), G p l e (headSpec wsX7_power rm_X7_power).room s m args below meth c 5 0 0 D (wsC cy h) (adC h) Q 46 [(0, .ref (h 0)), (1, .int x1), (2, .long (x2'))] [] s' (K x2' s')) :
  ∀ (n : Nat) (x2 : Int64) (x4 : Int32) (s0 : Wd), G p l e (headSpec wsX7_power rm_X7_power).room s m args below meth c 5 0 0 D (wsC cy h) (adC h) Q 5 [(0, .ref (h 0)), (1, .int x1), (2, .long x2), (4, .int x4)] [] s0 (fl_X7_power_5 N x1 K n x2 x4 s0) := by
  intro n
  induction n with
  | zero => intros; exact G.no
  | succ n ih =>
    intro x2 x4 s0
    rw [fl_X7_power_5]
    refine G.iload E dX7_power_5 3 rfl ?_
    refine G.bipush (v := 7) E dX7_power_7 (by decide) ?_
    refine G.icmp_ge (tgt := 46) E dX7_power_9 (by decide) ?_ ?_
    · refine G.loc [0, 1, 2] rfl ?_
      exact hK x2 s0
    · refine G.aload_n E dX7_power_12 0 rfl rfl ?_
      refine G.getR (T := TX7) (N := 7) (C := RX7) (q0 := 0) (i := 0) E dX7_power_13 iw_X7_power_7 (wsC_at0 _ _ _) rfl (by decide) rfl (List.mem_of_getElem? (i := 1) rfl) ?_
      refine G.iload E dX7_power_16 3 rfl ?_
      refine G.callVi (n := 1) (T := TX4) (N := 8) (C := RX4) (a := h 1) (q0 := 1) (As := [.int x4]) E dX7_power_18 (fun _ hv => c_X4_hasEdge E.wf hv) gX7_power_X4_hasEdge rfl rfl rfl (by decide +kernel) ⟨Nat.le_of_ble_eq_true rfl, Nat.le_of_ble_eq_true rfl⟩ (wsC_at1 _ _ _) rfl rfl (Nat.le_of_ble_eq_true rfl) ⟨Nat.le_of_ble_eq_true rfl, Nat.le_of_ble_eq_true rfl⟩ (fun v1 => ?_)
      refine G.jn (P := fun j => ∀ (v2 : Int64) (s3 : Wd), G p l e (headSpec wsX7_power rm_X7_power).room s m args below meth c 5 0 0 D (wsC cy h) (adC h) Q 40 [(0, .ref (h 0)), (1, .int x1), (2, .long v2), (4, .int x4)] [] s3 (j v2 s3)) ?_ (fun j40 hj40 => ?_)
      · intro v2 s3
        refine G.iinc (v := x4 + 1) (lv' := [(4, .int (x4 + 1)), (0, .ref (h 0)), (1, .int x1), (2, .long v2)]) E dX7_power_40 3 rfl rfl (by decide) rfl ?_
        refine G.goto (tgt := 5) E dX7_power_43 (by decide) ?_
        refine G.loc [1, 2, 3, 0] rfl ?_
        exact ih v2 (x4 + 1) s3
      · refine G.if_eq (tgt := 40) E dX7_power_21 (by decide) ?_ ?_
        · refine G.loc [0, 1, 2, 3] rfl ?_
          exact hj40 x2 s0
        · refine G.lload_n E dX7_power_24 2 rfl rfl ?_
          refine G.aload_n E dX7_power_25 0 rfl rfl ?_
          refine G.iload E dX7_power_26 3 rfl ?_
          refine G.callVl (n := 1) (T := TX7) (N := 7) (C := RX7) (a := h 0) (q0 := 0) (As := [.int x4]) E dX7_power_28 (fun _ hv => c_X7_valueOf E.wf hv) gX7_power_X7_valueOf rfl rfl rfl (by decide +kernel) ⟨Nat.le_of_ble_eq_true rfl, Nat.le_of_ble_eq_true rfl⟩ (wsC_at0 _ _ _) rfl rfl (Nat.le_of_ble_eq_true rfl) ⟨Nat.le_of_ble_eq_true rfl, Nat.le_of_ble_eq_true rfl⟩ (fun v4 => ?_)
          refine G.aload_n E dX7_power_31 0 rfl rfl ?_
          refine G.iload E dX7_power_32 3 rfl ?_
          refine G.callVls (n := 1) (T := TX7) (N := 7) (C := RX7) (a := h 0) (q0 := 0) (As := [.int x4]) E dX7_power_34 (fun _ _ hv => c_X7_upperOfCurrent E.wf hv) gX7_power_X7_upperOfCurrent rfl rfl rfl (by decide +kernel) ⟨Nat.le_of_ble_eq_true rfl, Nat.le_of_ble_eq_true rfl⟩ (wsC_at0 _ _ _) rfl rfl (Nat.le_of_ble_eq_true rfl) ⟨Nat.le_of_ble_eq_true rfl, Nat.le_of_ble_eq_true rfl⟩ (fun v5 s6 => ?_)
          refine G.lmul E dX7_power_37 ?_
          refine G.ladd E dX7_power_38 ?_
          refine G.letL (fun v7 => ?_)
          refine G.lstore_n (lv' := [(2, .long v7), (0, .ref (h 0)), (1, .int x1), (4, .int x4)]) E dX7_power_39 rfl (by decide) rfl ?_
          refine G.loc [1, 2, 0, 3] rfl ?_
          exact hj40 v7 s6
noncomputable def f_X7_power (N : Nat) (σ : Wd) (a0 : Int32) : Option (Int64 × Wd) :=
  fl_X7_power_5 N a0 (fun v8 s9 =>
    bS (f_X7_countRest N s9) fun v10 s11 =>
    bP (f_X7_partOf N v8 v10 a0) fun v12 =>
    some (v12, s11)) N 0 0 σ
set_option maxHeartbeats 4000000 in
set_option maxRecDepth 100000 in
theorem c_X7_power {l : Launch} {D : va_G} {cy : Nat → ClassId} {h : Nat → Nat} {N : Nat} {σ : Wd} {a0 : Int32} {r : Int64} {σ1 : Wd} (hW : WF (wsC cy h) (adC h)) (hr : f_X7_power N σ a0 = some (r, σ1)) : Con l D cy (wsC cy h) (adC h) yX7_power wsX7_power rm_X7_power 0 0 [.ref (h 0), .int a0] (some (.long r)) σ σ1 := by
  refine Con.of (ρ := Int64 × Wd) (lv0 := [(0, .ref (h 0)), (1, .int a0)]) (σ := σ) (fun r : Int64 × Wd => some (.long r.1)) (fun r => r.2) (by decide) rfl rfl (Nat.le_of_ble_eq_true rfl) rfl hW hr (fun p e s m args below meth c E => ?_)
  unfold f_X7_power
  refine G.lconst (v := 0) E dX7_power_0 (by decide) ?_
  refine G.lstore_n (lv' := [(2, .long 0), (0, .ref (h 0)), (1, .int a0)]) E dX7_power_1 rfl (by decide) rfl ?_
  refine G.iconst (v := 0) E dX7_power_2 (by decide) ?_
  refine G.istore (lv' := [(4, .int 0), (2, .long 0), (0, .ref (h 0)), (1, .int a0)]) E dX7_power_3 (by decide) rfl ?_
  refine G.loc [2, 3, 1, 0] rfl ?_
  refine gl_X7_power_5 E (fun v8 s9 => ?_) N _ _ _
  refine G.lload_n E dX7_power_46 2 rfl rfl ?_
  refine G.aload_n E dX7_power_47 0 rfl rfl ?_
  refine G.callVls (n := 0) (T := TX7) (N := 7) (C := RX7) (a := h 0) (q0 := 0) (As := []) E dX7_power_48 (fun _ _ hv => c_X7_countRest E.wf hv) gX7_power_X7_countRest rfl rfl rfl (by decide +kernel) ⟨Nat.le_of_ble_eq_true rfl, Nat.le_of_ble_eq_true rfl⟩ (wsC_at0 _ _ _) rfl rfl (Nat.le_of_ble_eq_true rfl) ⟨Nat.le_of_ble_eq_true rfl, Nat.le_of_ble_eq_true rfl⟩ (fun v10 s11 => ?_)
  refine G.iload_n E dX7_power_51 1 rfl rfl ?_
  refine G.callSl (n := 3) (As := [.long v8, .long v10, .int a0]) E dX7_power_52 (fun _ hv => c_X7_partOf E.wf hv) gX7_power_X7_partOf rfl rfl rfl (by decide +kernel) ⟨Nat.le_of_ble_eq_true rfl, Nat.le_of_ble_eq_true rfl⟩ rfl (Nat.le_of_ble_eq_true rfl) ⟨Nat.le_of_ble_eq_true rfl, Nat.le_of_ble_eq_true rfl⟩ (fun v12 => ?_)
  exact G.lret E dX7_power_55 rfl rfl
abbrev rm_X7_rest : Room := { frames := 16, cells := 0, slots := 0, locals := 399 }
noncomputable def f_X7_rest (N : Nat) (σ : Wd) : Option (Int64 × Wd) :=
  bS (f_X7_countRest N σ) fun v1 s2 =>
  some (v1, s2)
set_option maxHeartbeats 4000000 in
set_option maxRecDepth 100000 in
theorem c_X7_rest {l : Launch} {D : va_G} {cy : Nat → ClassId} {h : Nat → Nat} {N : Nat} {σ : Wd} {r : Int64} {σ1 : Wd} (hW : WF (wsC cy h) (adC h)) (hr : f_X7_rest N σ = some (r, σ1)) : Con l D cy (wsC cy h) (adC h) yX7_rest wsX7_rest rm_X7_rest 0 0 [.ref (h 0)] (some (.long r)) σ σ1 := by
  refine Con.of (ρ := Int64 × Wd) (lv0 := [(0, .ref (h 0))]) (σ := σ) (fun r : Int64 × Wd => some (.long r.1)) (fun r => r.2) (by decide) rfl rfl (Nat.le_of_ble_eq_true rfl) rfl hW hr (fun p e s m args below meth c E => ?_)
  unfold f_X7_rest
  refine G.aload_n E dX7_rest_0 0 rfl rfl ?_
  refine G.callVls (n := 0) (T := TX7) (N := 7) (C := RX7) (a := h 0) (q0 := 0) (As := []) E dX7_rest_1 (fun _ _ hv => c_X7_countRest E.wf hv) gX7_rest_X7_countRest rfl rfl rfl (by decide +kernel) ⟨Nat.le_of_ble_eq_true rfl, Nat.le_of_ble_eq_true rfl⟩ (wsC_at0 _ _ _) rfl rfl (Nat.le_of_ble_eq_true rfl) ⟨Nat.le_of_ble_eq_true rfl, Nat.le_of_ble_eq_true rfl⟩ (fun v1 s2 => ?_)
  exact G.lret E dX7_rest_4 rfl rfl
set_option maxHeartbeats 4000000 in
set_option maxRecDepth 100000 in
theorem iw_X7_setValue_7 : ∀ w ∈ u_ws RX7 TX7 7, w ∈ wsX7_setValue := fun _ h => List.mem_cons_of_mem _ (List.mem_append_right _ h)
abbrev rm_X7_setValue : Room := { frames := 0, cells := 0, slots := 0, locals := 0 }
noncomputable def f_X7_setValue (N : Nat) (σ : Wd) (a0 : Int32) (a1 : Int32) : Option (Wd) :=
  if a0 < 0 then (
    some σ)
  else (
    if 7 ≤ a0 then (
      some σ)
    else (
      aI σ 57 7 a0 a1 fun s1 =>
      some s1))
set_option maxHeartbeats 4000000 in
set_option maxRecDepth 100000 in
theorem c_X7_setValue {l : Launch} {D : va_G} {cy : Nat → ClassId} {h : Nat → Nat} {N : Nat} {σ : Wd} {a0 : Int32} {a1 : Int32} {σ1 : Wd} (hW : WF (wsC cy h) (adC h)) (hr : f_X7_setValue N σ a0 a1 = some σ1) : Con l D cy (wsC cy h) (adC h) yX7_setValue wsX7_setValue rm_X7_setValue 0 0 [.ref (h 0), .int a0, .int a1] (none) σ σ1 := by
  refine Con.of (ρ := Wd) (lv0 := [(0, .ref (h 0)), (1, .int a0), (2, .int a1)]) (σ := σ) (fun _ : Wd => none) (fun r => r) (by decide) rfl rfl (Nat.le_of_ble_eq_true rfl) rfl hW hr (fun p e s m args below meth c E => ?_)
  unfold f_X7_setValue
  refine G.iload_n E dX7_setValue_0 1 rfl rfl ?_
  refine G.if_lt (tgt := 20) E dX7_setValue_1 (by decide) ?_ ?_
  · exact G.vret E dX7_setValue_20 rfl rfl
  · refine G.iload_n E dX7_setValue_4 1 rfl rfl ?_
    refine G.aload_n E dX7_setValue_5 0 rfl rfl ?_
    refine G.getR (T := TX7) (N := 7) (C := RX7) (q0 := 0) (i := 6) E dX7_setValue_6 iw_X7_setValue_7 (wsC_at0 _ _ _) rfl (by decide) rfl (List.mem_of_getElem? (i := 1) rfl) ?_
    refine G.alen (q0 := 57) (t0 := 0) (v := 7) E dX7_setValue_9 (wsC_at57 _ _ _) rfl rfl ?_
    refine G.icmp_ge (tgt := 20) E dX7_setValue_10 (by decide) ?_ ?_
    · exact G.vret E dX7_setValue_20 rfl rfl
    · refine G.aload_n E dX7_setValue_13 0 rfl rfl ?_
      refine G.getR (T := TX7) (N := 7) (C := RX7) (q0 := 0) (i := 6) E dX7_setValue_14 iw_X7_setValue_7 (wsC_at0 _ _ _) rfl (by decide) rfl (List.mem_of_getElem? (i := 1) rfl) ?_
      refine G.iload_n E dX7_setValue_17 1 rfl rfl ?_
      refine G.iload_n E dX7_setValue_18 2 rfl rfl ?_
      refine G.iast (q0 := 57) E dX7_setValue_19 (wsC_at57 _ _ _) (fun j => wsC_set57 _ _ _ _ j) (fun s1 => ?_)
      exact G.vret E dX7_setValue_20 rfl rfl
set_option maxHeartbeats 4000000 in
set_option maxRecDepth 100000 in
theorem iw_X7_simplify_7 : ∀ w ∈ u_ws RX7 TX7 7, w ∈ wsX7_simplify := fun _ h => List.mem_cons_of_mem _ (List.mem_append_left _ (List.mem_append_left _ (List.mem_append_left _ (List.mem_append_right _ h))))
abbrev rm_X7_simplify : Room := { frames := 7, cells := 0, slots := 0, locals := 166 }
noncomputable def fl_X7_simplify_2 {ρ : Type} (N : Nat) (K : Int32 → Wd → Option ρ) : Nat → Int32 → Wd → Option ρ
  | 0, _, _ => none
  | n + 1, x1, s0 =>
    if 20 ≤ x1 then (
      K x1 s0)
    else (
      bS (f_X3_doFirstSimple N s0) fun v1 s2 =>
      if v1 = 0 then (
        K x1 s2)
      else (
        fl_X7_simplify_2 N K n (x1 + 1) s2))
set_option maxHeartbeats 4000000 in
set_option maxRecDepth 100000 in
theorem gl_X7_simplify_2 {ρ : Type} {Q : ρ → State → Prop} {N : Nat} {K : Int32 → Wd → Option ρ} (E : EV p s m args meth c cX7_simplify 2 RX7 wsX7_simplify (some .int) D cy (wsC cy h) (adC h)) (hK : ∀ (x1' : Int32) (s' : Wd), G p l e (headSpec wsX7_simplify rm_X7_simplify).room s m args below meth c 2 0 0 D (wsC cy h) (adC h) Q 24 [(1, .int (x1'))] [] s' (K x1' s')) :
  ∀ (n : Nat) (x1 : Int32) (s0 : Wd), G p l e (headSpec wsX7_simplify rm_X7_simplify).room s m args below meth c 2 0 0 D (wsC cy h) (adC h) Q 2 [(0, .ref (h 0)), (1, .int x1)] [] s0 (fl_X7_simplify_2 N K n x1 s0) := by
  intro n
  induction n with
  | zero => intros; exact G.no
  | succ n ih =>
    intro x1 s0
    rw [fl_X7_simplify_2]
    refine G.iload_n E dX7_simplify_2 1 rfl rfl ?_
    refine G.bipush (v := 20) E dX7_simplify_3 (by decide) ?_
    refine G.icmp_ge (tgt := 24) E dX7_simplify_5 (by decide) ?_ ?_
    · refine G.loc [1] rfl ?_
      exact hK x1 s0
    · refine G.aload_n E dX7_simplify_8 0 rfl rfl ?_
      refine G.getR (T := TX7) (N := 7) (C := RX7) (q0 := 0) (i := 4) E dX7_simplify_9 iw_X7_simplify_7 (wsC_at0 _ _ _) rfl (by decide) rfl (List.mem_of_getElem? (i := 1) rfl) ?_
      refine G.callVis (n := 0) (T := TX3) (N := 10) (C := RX3) (a := h 28) (q0 := 28) (As := []) E dX7_simplify_12 (fun _ _ hv => c_X3_doFirstSimple E.wf hv) gX7_simplify_X3_doFirstSimple rfl rfl rfl (by decide +kernel) ⟨Nat.le_of_ble_eq_true rfl, Nat.le_of_ble_eq_true rfl⟩ (wsC_at28 _ _ _) rfl rfl (Nat.le_of_ble_eq_true rfl) ⟨Nat.le_of_ble_eq_true rfl, Nat.le_of_ble_eq_true rfl⟩ (fun v1 s2 => ?_)
      refine G.if_eq (tgt := 24) E dX7_simplify_15 (by decide) ?_ ?_
      · refine G.loc [1] rfl ?_
        exact hK x1 s2
      · refine G.iinc (v := x1 + 1) (lv' := [(1, .int (x1 + 1)), (0, .ref (h 0))]) E dX7_simplify_18 1 rfl rfl (by decide) rfl ?_
        refine G.goto (tgt := 2) E dX7_simplify_21 (by decide) ?_
        refine G.loc [1, 0] rfl ?_
        exact ih (x1 + 1) s2
noncomputable def f_X7_simplify (N : Nat) (σ : Wd) : Option (Int32 × Wd) :=
  fl_X7_simplify_2 N (fun v3 s4 =>
    some (v3, s4)) N 0 σ
set_option maxHeartbeats 4000000 in
set_option maxRecDepth 100000 in
theorem c_X7_simplify {l : Launch} {D : va_G} {cy : Nat → ClassId} {h : Nat → Nat} {N : Nat} {σ : Wd} {r : Int32} {σ1 : Wd} (hW : WF (wsC cy h) (adC h)) (hr : f_X7_simplify N σ = some (r, σ1)) : Con l D cy (wsC cy h) (adC h) yX7_simplify wsX7_simplify rm_X7_simplify 0 0 [.ref (h 0)] (some (.int r)) σ σ1 := by
  refine Con.of (ρ := Int32 × Wd) (lv0 := [(0, .ref (h 0))]) (σ := σ) (fun r : Int32 × Wd => some (.int r.1)) (fun r => r.2) (by decide) rfl rfl (Nat.le_of_ble_eq_true rfl) rfl hW hr (fun p e s m args below meth c E => ?_)
  unfold f_X7_simplify
  refine G.iconst (v := 0) E dX7_simplify_0 (by decide) ?_
  refine G.istore_n (lv' := [(1, .int 0), (0, .ref (h 0))]) E dX7_simplify_1 rfl (by decide) rfl ?_
  refine G.loc [1, 0] rfl ?_
  refine gl_X7_simplify_2 E (fun v3 s4 => ?_) N _ _
  refine G.iload_n E dX7_simplify_24 0 rfl rfl ?_
  exact G.iret E dX7_simplify_25 rfl rfl
set_option maxHeartbeats 4000000 in
set_option maxRecDepth 100000 in
theorem iw_X7_upperOfOppositeAnswer_7 : ∀ w ∈ u_ws RX7 TX7 7, w ∈ wsX7_upperOfOppositeAnswer := fun _ h => List.mem_cons_of_mem _ (List.mem_append_left _ (List.mem_append_left _ (List.mem_append_right _ h)))
abbrev rm_X7_upperOfOppositeAnswer : Room := { frames := 15, cells := 0, slots := 0, locals := 380 }
noncomputable def fl_X7_upperOfOppositeAnswer_4 (N : Nat) (σ : Wd) (x1 : Int32) (K : Unit → Option (Int64 × Wd)) : Nat → Int32 → Int32 → Option (Int64 × Wd)
  | 0, _, _ => none
  | n + 1, x2, x3 =>
    if 7 ≤ x3 then (
      K ())
    else (
      jn (fun (v1 : Int32) => ((
        fl_X7_upperOfOppositeAnswer_4 N σ x1 K n v1 (x3 + 1)) : Option (Int64 × Wd))) fun j40 =>
      if x3 = x1 then (
        j40 x2)
      else (
        bP (f_X4_hasEdge N σ x3) fun v2 =>
        if v2 = 0 then (
          j40 x2)
        else (
          if x2 = (-1) then (
            j40 x3)
          else (
            bS (f_X7_upperOfAnswer N σ x2 x3) fun v3 s4 =>
            some (v3, s4)))))
set_option maxHeartbeats 4000000 in
set_option maxRecDepth 100000 in
theorem gl_X7_upperOfOppositeAnswer_4 {N : Nat} {σ : Wd} {x1 : Int32} {K : Unit → Option (Int64 × Wd)} (E : EV p s m args meth c cX7_upperOfOppositeAnswer 4 RX7 wsX7_upperOfOppositeAnswer (some .long) D cy (wsC cy h) (adC h)) (hK : ∀ (u : Unit), G p l e (headSpec wsX7_upperOfOppositeAnswer rm_X7_upperOfOppositeAnswer).room s m args below meth c 4 0 0 D (wsC cy h) (adC h) (QM D (wsC cy h) (adC h) below args s 0 0 (fun r : Int64 × Wd => some (.long r.1)) (fun r => r.2)) 46 [] [] σ (K u)) :
  ∀ (n : Nat) (x2 : Int32) (x3 : Int32), G p l e (headSpec wsX7_upperOfOppositeAnswer rm_X7_upperOfOppositeAnswer).room s m args below meth c 4 0 0 D (wsC cy h) (adC h) (QM D (wsC cy h) (adC h) below args s 0 0 (fun r : Int64 × Wd => some (.long r.1)) (fun r => r.2)) 4 [(0, .ref (h 0)), (1, .int x1), (2, .int x2), (3, .int x3)] [] σ (fl_X7_upperOfOppositeAnswer_4 N σ x1 K n x2 x3) := by
  intro n
  induction n with
  | zero => intros; exact G.no
  | succ n ih =>
    intro x2 x3
    rw [fl_X7_upperOfOppositeAnswer_4]
    refine G.iload_n E dX7_upperOfOppositeAnswer_4 3 rfl rfl ?_
    refine G.bipush (v := 7) E dX7_upperOfOppositeAnswer_5 (by decide) ?_
    refine G.icmp_ge (tgt := 46) E dX7_upperOfOppositeAnswer_7 (by decide) ?_ ?_
    · refine G.loc [] rfl ?_
      exact hK ()
    · refine G.iload_n E dX7_upperOfOppositeAnswer_10 3 rfl rfl ?_
      refine G.iload_n E dX7_upperOfOppositeAnswer_11 1 rfl rfl ?_
      refine G.jn (P := fun j => ∀ (v1 : Int32), G p l e (headSpec wsX7_upperOfOppositeAnswer rm_X7_upperOfOppositeAnswer).room s m args below meth c 4 0 0 D (wsC cy h) (adC h) (QM D (wsC cy h) (adC h) below args s 0 0 (fun r : Int64 × Wd => some (.long r.1)) (fun r => r.2)) 40 [(0, .ref (h 0)), (1, .int x1), (2, .int v1), (3, .int x3)] [] σ (j v1)) ?_ (fun j40 hj40 => ?_)
      · intro v1
        refine G.iinc (v := x3 + 1) (lv' := [(3, .int (x3 + 1)), (0, .ref (h 0)), (1, .int x1), (2, .int v1)]) E dX7_upperOfOppositeAnswer_40 3 rfl rfl (by decide) rfl ?_
        refine G.goto (tgt := 4) E dX7_upperOfOppositeAnswer_43 (by decide) ?_
        refine G.loc [1, 2, 3, 0] rfl ?_
        exact ih v1 (x3 + 1)
      · refine G.icmp_eq (tgt := 40) E dX7_upperOfOppositeAnswer_12 (by decide) ?_ ?_
        · refine G.loc [0, 1, 2, 3] rfl ?_
          exact hj40 x2
        · refine G.aload_n E dX7_upperOfOppositeAnswer_15 0 rfl rfl ?_
          refine G.getR (T := TX7) (N := 7) (C := RX7) (q0 := 0) (i := 0) E dX7_upperOfOppositeAnswer_16 iw_X7_upperOfOppositeAnswer_7 (wsC_at0 _ _ _) rfl (by decide) rfl (List.mem_of_getElem? (i := 1) rfl) ?_
          refine G.iload_n E dX7_upperOfOppositeAnswer_19 3 rfl rfl ?_
          refine G.callVi (n := 1) (T := TX4) (N := 8) (C := RX4) (a := h 1) (q0 := 1) (As := [.int x3]) E dX7_upperOfOppositeAnswer_20 (fun _ hv => c_X4_hasEdge E.wf hv) gX7_upperOfOppositeAnswer_X4_hasEdge rfl rfl rfl (by decide +kernel) ⟨Nat.le_of_ble_eq_true rfl, Nat.le_of_ble_eq_true rfl⟩ (wsC_at1 _ _ _) rfl rfl (Nat.le_of_ble_eq_true rfl) ⟨Nat.le_of_ble_eq_true rfl, Nat.le_of_ble_eq_true rfl⟩ (fun v2 => ?_)
          refine G.if_eq (tgt := 40) E dX7_upperOfOppositeAnswer_23 (by decide) ?_ ?_
          · refine G.loc [0, 1, 2, 3] rfl ?_
            exact hj40 x2
          · refine G.iload_n E dX7_upperOfOppositeAnswer_26 2 rfl rfl ?_
            refine G.iconst (v := (-1)) E dX7_upperOfOppositeAnswer_27 (by decide) ?_
            refine G.icmp_eq (tgt := 38) E dX7_upperOfOppositeAnswer_28 (by decide) ?_ ?_
            · refine G.iload_n E dX7_upperOfOppositeAnswer_38 3 rfl rfl ?_
              refine G.istore_n (lv' := [(2, .int x3), (0, .ref (h 0)), (1, .int x1), (3, .int x3)]) E dX7_upperOfOppositeAnswer_39 rfl (by decide) rfl ?_
              refine G.loc [1, 2, 0, 3] rfl ?_
              exact hj40 x3
            · refine G.aload_n E dX7_upperOfOppositeAnswer_31 0 rfl rfl ?_
              refine G.iload_n E dX7_upperOfOppositeAnswer_32 2 rfl rfl ?_
              refine G.iload_n E dX7_upperOfOppositeAnswer_33 3 rfl rfl ?_
              refine G.callVls (n := 2) (T := TX7) (N := 7) (C := RX7) (a := h 0) (q0 := 0) (As := [.int x2, .int x3]) E dX7_upperOfOppositeAnswer_34 (fun _ _ hv => c_X7_upperOfAnswer E.wf hv) gX7_upperOfOppositeAnswer_X7_upperOfAnswer rfl rfl rfl (by decide +kernel) ⟨Nat.le_of_ble_eq_true rfl, Nat.le_of_ble_eq_true rfl⟩ (wsC_at0 _ _ _) rfl rfl (Nat.le_of_ble_eq_true rfl) ⟨Nat.le_of_ble_eq_true rfl, Nat.le_of_ble_eq_true rfl⟩ (fun v3 s4 => ?_)
              exact G.lret E dX7_upperOfOppositeAnswer_37 rfl rfl
noncomputable def f_X7_upperOfOppositeAnswer (N : Nat) (σ : Wd) (a0 : Int32) : Option (Int64 × Wd) :=
  fl_X7_upperOfOppositeAnswer_4 N σ a0 (fun (_ : Unit) =>
    some (0, σ)) N (-1) 0
set_option maxHeartbeats 4000000 in
set_option maxRecDepth 100000 in
theorem c_X7_upperOfOppositeAnswer {l : Launch} {D : va_G} {cy : Nat → ClassId} {h : Nat → Nat} {N : Nat} {σ : Wd} {a0 : Int32} {r : Int64} {σ1 : Wd} (hW : WF (wsC cy h) (adC h)) (hr : f_X7_upperOfOppositeAnswer N σ a0 = some (r, σ1)) : Con l D cy (wsC cy h) (adC h) yX7_upperOfOppositeAnswer wsX7_upperOfOppositeAnswer rm_X7_upperOfOppositeAnswer 0 0 [.ref (h 0), .int a0] (some (.long r)) σ σ1 := by
  refine Con.of (ρ := Int64 × Wd) (lv0 := [(0, .ref (h 0)), (1, .int a0)]) (σ := σ) (fun r : Int64 × Wd => some (.long r.1)) (fun r => r.2) (by decide) rfl rfl (Nat.le_of_ble_eq_true rfl) rfl hW hr (fun p e s m args below meth c E => ?_)
  unfold f_X7_upperOfOppositeAnswer
  refine G.iconst (v := (-1)) E dX7_upperOfOppositeAnswer_0 (by decide) ?_
  refine G.istore_n (lv' := [(2, .int (-1)), (0, .ref (h 0)), (1, .int a0)]) E dX7_upperOfOppositeAnswer_1 rfl (by decide) rfl ?_
  refine G.iconst (v := 0) E dX7_upperOfOppositeAnswer_2 (by decide) ?_
  refine G.istore_n (lv' := [(3, .int 0), (2, .int (-1)), (0, .ref (h 0)), (1, .int a0)]) E dX7_upperOfOppositeAnswer_3 rfl (by decide) rfl ?_
  refine G.loc [2, 3, 1, 0] rfl ?_
  refine gl_X7_upperOfOppositeAnswer_4 E (fun _ => ?_) N _ _
  refine G.lconst (v := 0) E dX7_upperOfOppositeAnswer_46 (by decide) ?_
  exact G.lret E dX7_upperOfOppositeAnswer_47 rfl rfl
set_option maxHeartbeats 4000000 in
set_option maxRecDepth 100000 in
theorem iw_X7_starred_4 : ∀ w ∈ u_ws RX4 TX4 8, w ∈ wsX7_starred := fun _ h => List.mem_cons_of_mem _ (List.mem_append_left _ (List.mem_append_left _ (List.mem_append_right _ h)))
set_option maxHeartbeats 4000000 in
set_option maxRecDepth 100000 in
theorem iw_X7_starred_7 : ∀ w ∈ u_ws RX7 TX7 7, w ∈ wsX7_starred := fun _ h => List.mem_cons_of_mem _ (List.mem_append_left _ (List.mem_append_left _ (List.mem_append_left _ (List.mem_append_right _ h))))
abbrev rm_X7_starred : Room := { frames := 16, cells := 1, slots := 6, locals := 403 }
noncomputable def fl_X7_starred_23 (N : Nat) (x1 : Int32) (x2 : Int32) (K : Wd → Option ((Nat ⊕ Int64) × Wd)) : Nat → Int32 → Wd → Option ((Nat ⊕ Int64) × Wd)
  | 0, _, _ => none
  | n + 1, x3, s0 =>
    if 7 ≤ x3 then (
      K s0)
    else (
      bP (f_X4_hasEdge N s0 x3) fun v5 =>
      jn (fun (s6 : Wd) => ((
        fl_X7_starred_23 N x1 x2 K n (x3 + 1) s6) : Option ((Nat ⊕ Int64) × Wd))) fun j52 =>
      if v5 = 0 then (
        j52 s0)
      else (
        bS (f_X7_upperOfOppositeAnswer N s0 x3) fun v7 s8 =>
        if (lg_cmp v7 0) = 0 then (
          some (.inr 0, s8))
        else (
          j52 s8)))
set_option maxHeartbeats 4000000 in
set_option maxRecDepth 100000 in
theorem gl_X7_starred_23 {N : Nat} {x1 : Int32} {x2 : Int32} {K : Wd → Option ((Nat ⊕ Int64) × Wd)} (E : EV p s m args meth c cX7_starred 4 RX7 wsX7_starred (some .long) D cy (wsC cy h) (adC h)) (EX0 : EX l c) (hK : ∀ (s' : Wd), G p l e (headSpec wsX7_starred rm_X7_starred).room s m args below meth c 4 1 6 D (wsC cy h) (adC h) (QX D (wsC cy h) (adC h) below args s 1 6 ooL (fun r => r.2)) 58 [(0, .ref (h 0)), (1, .int x1), (2, .int x2)] [] s' (K s')) :
  ∀ (n : Nat) (x3 : Int32) (s0 : Wd), G p l e (headSpec wsX7_starred rm_X7_starred).room s m args below meth c 4 1 6 D (wsC cy h) (adC h) (QX D (wsC cy h) (adC h) below args s 1 6 ooL (fun r => r.2)) 23 [(0, .ref (h 0)), (1, .int x1), (2, .int x2), (3, .int x3)] [] s0 (fl_X7_starred_23 N x1 x2 K n x3 s0) := by
  intro n
  induction n with
  | zero => intros; exact G.no
  | succ n ih =>
    intro x3 s0
    rw [fl_X7_starred_23]
    refine G.iload_n E dX7_starred_23 3 rfl rfl ?_
    refine G.bipush (v := 7) E dX7_starred_24 (by decide) ?_
    refine G.icmp_ge (tgt := 58) E dX7_starred_26 (by decide) ?_ ?_
    · refine G.loc [0, 1, 2] rfl ?_
      exact hK s0
    · refine G.aload_n E dX7_starred_29 0 rfl rfl ?_
      refine G.getR (T := TX7) (N := 7) (C := RX7) (q0 := 0) (i := 0) E dX7_starred_30 iw_X7_starred_7 (wsC_at0 _ _ _) rfl (by decide) rfl (List.mem_of_getElem? (i := 1) rfl) ?_
      refine G.iload_n E dX7_starred_33 3 rfl rfl ?_
      refine G.callVi (n := 1) (T := TX4) (N := 8) (C := RX4) (a := h 1) (q0 := 1) (As := [.int x3]) E dX7_starred_34 (fun _ hv => c_X4_hasEdge E.wf hv) gX7_starred_X4_hasEdge rfl rfl rfl (by decide +kernel) ⟨Nat.le_of_ble_eq_true rfl, Nat.le_of_ble_eq_true rfl⟩ (wsC_at1 _ _ _) rfl rfl (Nat.le_of_ble_eq_true rfl) ⟨Nat.le_of_ble_eq_true rfl, Nat.le_of_ble_eq_true rfl⟩ (fun v5 => ?_)
      refine G.jn (P := fun j => ∀ (s6 : Wd), G p l e (headSpec wsX7_starred rm_X7_starred).room s m args below meth c 4 1 6 D (wsC cy h) (adC h) (QX D (wsC cy h) (adC h) below args s 1 6 ooL (fun r => r.2)) 52 [(0, .ref (h 0)), (1, .int x1), (2, .int x2), (3, .int x3)] [] s6 (j s6)) ?_ (fun j52 hj52 => ?_)
      · intro s6
        refine G.iinc (v := x3 + 1) (lv' := [(3, .int (x3 + 1)), (0, .ref (h 0)), (1, .int x1), (2, .int x2)]) E dX7_starred_52 3 rfl rfl (by decide) rfl ?_
        refine G.goto (tgt := 23) E dX7_starred_55 (by decide) ?_
        refine G.loc [1, 2, 3, 0] rfl ?_
        exact ih (x3 + 1) s6
      · refine G.if_eq (tgt := 52) E dX7_starred_37 (by decide) ?_ ?_
        · refine G.loc [0, 1, 2, 3] rfl ?_
          exact hj52 s0
        · refine G.aload_n E dX7_starred_40 0 rfl rfl ?_
          refine G.iload_n E dX7_starred_41 3 rfl rfl ?_
          refine G.callVls (n := 1) (T := TX7) (N := 7) (C := RX7) (a := h 0) (q0 := 0) (As := [.int x3]) E dX7_starred_42 (fun _ _ hv => c_X7_upperOfOppositeAnswer E.wf hv) gX7_starred_X7_upperOfOppositeAnswer rfl rfl rfl (by decide +kernel) ⟨Nat.le_of_ble_eq_true rfl, Nat.le_of_ble_eq_true rfl⟩ (wsC_at0 _ _ _) rfl rfl (Nat.le_of_ble_eq_true rfl) ⟨Nat.le_of_ble_eq_true rfl, Nat.le_of_ble_eq_true rfl⟩ (fun v7 s8 => ?_)
          refine G.lconst (v := 0) E dX7_starred_45 (by decide) ?_
          refine G.lcmp E dX7_starred_46 ?_
          refine G.if_ne (tgt := 52) E dX7_starred_47 (by decide) ?_ ?_
          · refine G.lconst (v := 0) E dX7_starred_50 (by decide) ?_
            exact G.x_lret E dX7_starred_51 rfl (Nat.le_of_ble_eq_true rfl) (Nat.le_of_ble_eq_true rfl) rfl rfl
          · refine G.loc [0, 1, 2, 3] rfl ?_
            exact hj52 s8
noncomputable def f_X7_starred (N : Nat) (σ : Wd) (a0 : Int32) (a1 : Int32) : Option ((Nat ⊕ Int64) × Wd) :=
  bX (f_X7_needEdge N σ a0) fun v1 s2 =>
  gI s2 1 1 fun v3 =>
  bP (f_J6_bitCount_0f7a4 N v3) fun v4 =>
  if v4 = 3 then (
    fl_X7_starred_23 N a0 a1 (fun s9 =>
      bS (f_X7_countTrees N s9) fun v10 s11 =>
      bS (f_X7_upperOfOppositeAnswer N s11 a0) fun v12 s13 =>
      bP (f_X7_partOf N v10 v12 a1) fun v14 =>
      some (.inr v14, s13)) N 0 s2)
  else (
    some (.inr 0, s2))
set_option maxHeartbeats 4000000 in
set_option maxRecDepth 100000 in
theorem c_X7_starred {l : Launch} {D : va_G} {cy : Nat → ClassId} {h : Nat → Nat} {N : Nat} {σ : Wd} {a0 : Int32} {a1 : Int32} {r : (Nat ⊕ Int64) × Wd} (hW : WF (wsC cy h) (adC h)) (hfl : l.stackTraces = false) (hr : f_X7_starred N σ a0 a1 = some r) : ConX l D cy (wsC cy h) (adC h) yX7_starred wsX7_starred rm_X7_starred 1 6 [.ref (h 0), .int a0, .int a1] (ooL r) σ r.2 := by
  refine ConX.of (lv0 := [(0, .ref (h 0)), (1, .int a0), (2, .int a1)]) (σ := σ) ooL (fun r => r.2) (by decide) rfl rfl (Nat.le_of_ble_eq_true rfl) rfl hW hfl hr (fun p e s m args below meth c E EX0 => ?_)
  unfold f_X7_starred
  refine G.aload_n E dX7_starred_0 0 rfl rfl ?_
  refine G.iload_n E dX7_starred_1 1 rfl rfl ?_
  refine G.callXv (n := 1) (T := TX7) (N := 7) (C := RX7) (a := h 0) (q0 := 0) (As := [.int a0]) E EX0 dX7_starred_2 (fun _ hv => c_X7_needEdge E.wf EX0.1 hv) gX7_starred_X7_needEdge rfl rfl rfl (by decide +kernel) ⟨(Nat.le_of_ble_eq_true rfl), (Nat.le_of_ble_eq_true rfl)⟩ (wsC_at0 _ _ _) rfl rfl (Nat.le_of_ble_eq_true rfl) ⟨(Nat.le_of_ble_eq_true rfl), (Nat.le_of_ble_eq_true rfl)⟩ (Nat.le_of_ble_eq_true rfl) (Nat.le_of_ble_eq_true rfl) (fun _ _ => rfl) (fun v1 s2 => ?_)
  refine G.aload_n E dX7_starred_5 0 rfl rfl ?_
  refine G.getR (T := TX7) (N := 7) (C := RX7) (q0 := 0) (i := 0) E dX7_starred_6 iw_X7_starred_7 (wsC_at0 _ _ _) rfl (by decide) rfl (List.mem_of_getElem? (i := 1) rfl) ?_
  refine G.getI (T := TX4) (N := 8) (C := RX4) (q0 := 1) (i := 1) E dX7_starred_9 iw_X7_starred_4 (wsC_at1 _ _ _) rfl (by decide) rfl (List.mem_of_getElem? (i := 2) rfl) (fun v3 => ?_)
  refine G.callSi (n := 1) (As := [.int v3]) E dX7_starred_12 (fun _ hv => c_J6_bitCount_0f7a4 E.wf hv) gX7_starred_J6_bitCount_0f7a4 rfl rfl rfl (by decide +kernel) ⟨Nat.le_of_ble_eq_true rfl, Nat.le_of_ble_eq_true rfl⟩ rfl (Nat.le_of_ble_eq_true rfl) ⟨Nat.le_of_ble_eq_true rfl, Nat.le_of_ble_eq_true rfl⟩ (fun v4 => ?_)
  refine G.iconst (v := 3) E dX7_starred_15 (by decide) ?_
  refine G.icmp_eq (tgt := 21) E dX7_starred_16 (by decide) ?_ ?_
  · refine G.iconst (v := 0) E dX7_starred_21 (by decide) ?_
    refine G.istore_n (lv' := [(3, .int 0), (0, .ref (h 0)), (1, .int a0), (2, .int a1)]) E dX7_starred_22 rfl (by decide) rfl ?_
    refine G.loc [1, 2, 3, 0] rfl ?_
    refine gl_X7_starred_23 E EX0 (fun s9 => ?_) N _ _
    refine G.aload_n E dX7_starred_58 0 rfl rfl ?_
    refine G.callVls (n := 0) (T := TX7) (N := 7) (C := RX7) (a := h 0) (q0 := 0) (As := []) E dX7_starred_59 (fun _ _ hv => c_X7_countTrees E.wf hv) gX7_starred_X7_countTrees rfl rfl rfl (by decide +kernel) ⟨Nat.le_of_ble_eq_true rfl, Nat.le_of_ble_eq_true rfl⟩ (wsC_at0 _ _ _) rfl rfl (Nat.le_of_ble_eq_true rfl) ⟨Nat.le_of_ble_eq_true rfl, Nat.le_of_ble_eq_true rfl⟩ (fun v10 s11 => ?_)
    refine G.aload_n E dX7_starred_62 0 rfl rfl ?_
    refine G.iload_n E dX7_starred_63 1 rfl rfl ?_
    refine G.callVls (n := 1) (T := TX7) (N := 7) (C := RX7) (a := h 0) (q0 := 0) (As := [.int a0]) E dX7_starred_64 (fun _ _ hv => c_X7_upperOfOppositeAnswer E.wf hv) gX7_starred_X7_upperOfOppositeAnswer rfl rfl rfl (by decide +kernel) ⟨Nat.le_of_ble_eq_true rfl, Nat.le_of_ble_eq_true rfl⟩ (wsC_at0 _ _ _) rfl rfl (Nat.le_of_ble_eq_true rfl) ⟨Nat.le_of_ble_eq_true rfl, Nat.le_of_ble_eq_true rfl⟩ (fun v12 s13 => ?_)
    refine G.iload_n E dX7_starred_67 2 rfl rfl ?_
    refine G.callSl (n := 3) (As := [.long v10, .long v12, .int a1]) E dX7_starred_68 (fun _ hv => c_X7_partOf E.wf hv) gX7_starred_X7_partOf rfl rfl rfl (by decide +kernel) ⟨Nat.le_of_ble_eq_true rfl, Nat.le_of_ble_eq_true rfl⟩ rfl (Nat.le_of_ble_eq_true rfl) ⟨Nat.le_of_ble_eq_true rfl, Nat.le_of_ble_eq_true rfl⟩ (fun v14 => ?_)
    exact G.x_lret E dX7_starred_71 rfl (Nat.le_of_ble_eq_true rfl) (Nat.le_of_ble_eq_true rfl) rfl rfl
  · refine G.lconst (v := 0) E dX7_starred_19 (by decide) ?_
    exact G.x_lret E dX7_starred_20 rfl (Nat.le_of_ble_eq_true rfl) (Nat.le_of_ble_eq_true rfl) rfl rfl
set_option maxHeartbeats 4000000 in
set_option maxRecDepth 100000 in
theorem iw_X7_tree_7 : ∀ w ∈ u_ws RX7 TX7 7, w ∈ wsX7_tree := fun _ h => List.mem_cons_of_mem _ (List.mem_append_left _ (List.mem_append_left _ (List.mem_append_left _ (List.mem_append_right _ h))))
set_option maxHeartbeats 4000000 in
set_option maxRecDepth 100000 in
theorem ia_X7_tree_87 : ∀ w ∈ (vx_atS RX7 87 "java/lang/IllegalArgumentException" ["java/lang/RuntimeException", "java/lang/Exception"]).filter goodWord, w ∈ wsX7_tree := fun w h => List.mem_cons_of_mem _ (List.mem_append_right _ h)
abbrev rm_X7_tree : Room := { frames := 14, cells := 1, slots := 6, locals := 346 }
noncomputable def f_X7_tree (N : Nat) (σ : Wd) (a0 : Int32) : Option ((Nat ⊕ Int32) × Wd) :=
  if 0 ≤ a0 then (
    bS (f_X0_treeAt N σ a0) fun v1 s2 =>
    some (.inr v1, s2))
  else (
    some (.inl 2, σ))
set_option maxHeartbeats 4000000 in
set_option maxRecDepth 100000 in
theorem c_X7_tree {l : Launch} {D : va_G} {cy : Nat → ClassId} {h : Nat → Nat} {N : Nat} {σ : Wd} {a0 : Int32} {r : (Nat ⊕ Int32) × Wd} (hW : WF (wsC cy h) (adC h)) (hfl : l.stackTraces = false) (hr : f_X7_tree N σ a0 = some r) : ConX l D cy (wsC cy h) (adC h) yX7_tree wsX7_tree rm_X7_tree 1 6 [.ref (h 0), .int a0] (ooI r) σ r.2 := by
  refine ConX.of (lv0 := [(0, .ref (h 0)), (1, .int a0)]) (σ := σ) ooI (fun r => r.2) (by decide) rfl rfl (Nat.le_of_ble_eq_true rfl) rfl hW hfl hr (fun p e s m args below meth c E EX0 => ?_)
  unfold f_X7_tree
  refine G.iload_n E dX7_tree_0 1 rfl rfl ?_
  refine G.if_ge (tgt := 14) E dX7_tree_1 (by decide) ?_ ?_
  · refine G.aload_n E dX7_tree_14 0 rfl rfl ?_
    refine G.getR (T := TX7) (N := 7) (C := RX7) (q0 := 0) (i := 1) E dX7_tree_15 iw_X7_tree_7 (wsC_at0 _ _ _) rfl (by decide) rfl (List.mem_of_getElem? (i := 3) rfl) ?_
    refine G.iload_n E dX7_tree_18 1 rfl rfl ?_
    refine G.callVis (n := 1) (T := TX0) (N := 9) (C := RX0) (a := h 5) (q0 := 5) (As := [.int a0]) E dX7_tree_19 (fun _ _ hv => c_X0_treeAt E.wf hv) gX7_tree_X0_treeAt rfl rfl rfl (by decide +kernel) ⟨Nat.le_of_ble_eq_true rfl, Nat.le_of_ble_eq_true rfl⟩ (wsC_at5 _ _ _) rfl rfl (Nat.le_of_ble_eq_true rfl) ⟨Nat.le_of_ble_eq_true rfl, Nat.le_of_ble_eq_true rfl⟩ (fun v1 s2 => ?_)
    exact G.x_iret E dX7_tree_22 rfl (Nat.le_of_ble_eq_true rfl) (Nat.le_of_ble_eq_true rfl) rfl rfl
  · exact G.throwS (q := 2) (text := "a place is from 0") (cls := "java/lang/IllegalArgumentException") (names := ["java/lang/RuntimeException", "java/lang/Exception"]) E EX0 (by decide +kernel) (by decide +kernel) (List.mem_of_getElem? (i := 1) rfl) (List.mem_of_getElem? (i := 2) rfl) (by decide +kernel) ia_X7_tree_87 atg_87 (otw_83_87) dX7_tree_4 dX7_tree_7 dX7_tree_8 dX7_tree_10 dX7_tree_13 ⟨Nat.le_of_ble_eq_true rfl, Nat.le_of_ble_eq_true rfl⟩ ⟨Nat.le_of_ble_eq_true rfl, Nat.le_of_ble_eq_true rfl⟩ rfl rfl rfl (Nat.le_of_ble_eq_true rfl) (Nat.le_of_ble_eq_true rfl)
abbrev rm_X7_trees : Room := { frames := 16, cells := 0, slots := 0, locals := 400 }
noncomputable def f_X7_trees (N : Nat) (σ : Wd) : Option (Int64 × Wd) :=
  bS (f_X7_countTrees N σ) fun v1 s2 =>
  some (v1, s2)
set_option maxHeartbeats 4000000 in
set_option maxRecDepth 100000 in
theorem c_X7_trees {l : Launch} {D : va_G} {cy : Nat → ClassId} {h : Nat → Nat} {N : Nat} {σ : Wd} {r : Int64} {σ1 : Wd} (hW : WF (wsC cy h) (adC h)) (hr : f_X7_trees N σ = some (r, σ1)) : Con l D cy (wsC cy h) (adC h) yX7_trees wsX7_trees rm_X7_trees 0 0 [.ref (h 0)] (some (.long r)) σ σ1 := by
  refine Con.of (ρ := Int64 × Wd) (lv0 := [(0, .ref (h 0))]) (σ := σ) (fun r : Int64 × Wd => some (.long r.1)) (fun r => r.2) (by decide) rfl rfl (Nat.le_of_ble_eq_true rfl) rfl hW hr (fun p e s m args below meth c E => ?_)
  unfold f_X7_trees
  refine G.aload_n E dX7_trees_0 0 rfl rfl ?_
  refine G.callVls (n := 0) (T := TX7) (N := 7) (C := RX7) (a := h 0) (q0 := 0) (As := []) E dX7_trees_1 (fun _ _ hv => c_X7_countTrees E.wf hv) gX7_trees_X7_countTrees rfl rfl rfl (by decide +kernel) ⟨Nat.le_of_ble_eq_true rfl, Nat.le_of_ble_eq_true rfl⟩ (wsC_at0 _ _ _) rfl rfl (Nat.le_of_ble_eq_true rfl) ⟨Nat.le_of_ble_eq_true rfl, Nat.le_of_ble_eq_true rfl⟩ (fun v1 s2 => ?_)
  exact G.lret E dX7_trees_4 rfl rfl
set_option maxHeartbeats 4000000 in
set_option maxRecDepth 100000 in
theorem iw_X7_treesAnew_7 : ∀ w ∈ u_ws RX7 TX7 7, w ∈ wsX7_treesAnew := fun _ h => List.mem_cons_of_mem _ (List.mem_append_left _ (List.mem_append_left _ (List.mem_append_right _ h)))
abbrev rm_X7_treesAnew : Room := { frames := 13, cells := 0, slots := 0, locals := 352 }
noncomputable def f_X7_treesAnew (N : Nat) (σ : Wd) : Option (Int64 × Wd) :=
  bS (f_X2_countTreesAgain N σ) fun v1 s2 =>
  some (v1, s2)
set_option maxHeartbeats 4000000 in
set_option maxRecDepth 100000 in
theorem c_X7_treesAnew {l : Launch} {D : va_G} {cy : Nat → ClassId} {h : Nat → Nat} {N : Nat} {σ : Wd} {r : Int64} {σ1 : Wd} (hW : WF (wsC cy h) (adC h)) (hr : f_X7_treesAnew N σ = some (r, σ1)) : Con l D cy (wsC cy h) (adC h) yX7_treesAnew wsX7_treesAnew rm_X7_treesAnew 0 0 [.ref (h 0)] (some (.long r)) σ σ1 := by
  refine Con.of (ρ := Int64 × Wd) (lv0 := [(0, .ref (h 0))]) (σ := σ) (fun r : Int64 × Wd => some (.long r.1)) (fun r => r.2) (by decide) rfl rfl (Nat.le_of_ble_eq_true rfl) rfl hW hr (fun p e s m args below meth c E => ?_)
  unfold f_X7_treesAnew
  refine G.aload_n E dX7_treesAnew_0 0 rfl rfl ?_
  refine G.getR (T := TX7) (N := 7) (C := RX7) (q0 := 0) (i := 2) E dX7_treesAnew_1 iw_X7_treesAnew_7 (wsC_at0 _ _ _) rfl (by decide) rfl (List.mem_of_getElem? (i := 1) rfl) ?_
  refine G.callVls (n := 0) (T := TX2) (N := 3) (C := RX2) (a := h 16) (q0 := 16) (As := []) E dX7_treesAnew_4 (fun _ _ hv => c_X2_countTreesAgain E.wf hv) gX7_treesAnew_X2_countTreesAgain rfl rfl rfl (by decide +kernel) ⟨Nat.le_of_ble_eq_true rfl, Nat.le_of_ble_eq_true rfl⟩ (wsC_at16 _ _ _) rfl rfl (Nat.le_of_ble_eq_true rfl) ⟨Nat.le_of_ble_eq_true rfl, Nat.le_of_ble_eq_true rfl⟩ (fun v1 s2 => ?_)
  exact G.lret E dX7_treesAnew_7 rfl rfl
set_option maxHeartbeats 4000000 in
set_option maxRecDepth 100000 in
theorem iw_X7_undo_7 : ∀ w ∈ u_ws RX7 TX7 7, w ∈ wsX7_undo := fun _ h => List.mem_cons_of_mem _ (List.mem_append_left _ (List.mem_append_left _ (List.mem_append_left _ (List.mem_append_right _ h))))
set_option maxHeartbeats 4000000 in
set_option maxRecDepth 100000 in
theorem ia_X7_undo_65 : ∀ w ∈ (vx_atS RX7 65 "java/lang/IllegalStateException" ["java/lang/RuntimeException", "java/lang/Exception"]).filter goodWord, w ∈ wsX7_undo := fun w h => List.mem_cons_of_mem _ (List.mem_append_right _ h)
abbrev rm_X7_undo : Room := { frames := 8, cells := 1, slots := 6, locals := 120 }
noncomputable def f_X7_undo (N : Nat) (σ : Wd) : Option ((Nat ⊕ Int32) × Wd) :=
  bP (f_X3_howMany N σ) fun v1 =>
  if v1 = 0 then (
    some (.inl 3, σ))
  else (
    bP (f_X3_takeBack N σ) fun s2 =>
    bP (f_X3_howMany N s2) fun v3 =>
    some (.inr v3, s2))
set_option maxHeartbeats 4000000 in
set_option maxRecDepth 100000 in
theorem c_X7_undo {l : Launch} {D : va_G} {cy : Nat → ClassId} {h : Nat → Nat} {N : Nat} {σ : Wd} {r : (Nat ⊕ Int32) × Wd} (hW : WF (wsC cy h) (adC h)) (hfl : l.stackTraces = false) (hr : f_X7_undo N σ = some r) : ConX l D cy (wsC cy h) (adC h) yX7_undo wsX7_undo rm_X7_undo 1 6 [.ref (h 0)] (ooI r) σ r.2 := by
  refine ConX.of (lv0 := [(0, .ref (h 0))]) (σ := σ) ooI (fun r => r.2) (by decide) rfl rfl (Nat.le_of_ble_eq_true rfl) rfl hW hfl hr (fun p e s m args below meth c E EX0 => ?_)
  unfold f_X7_undo
  refine G.aload_n E dX7_undo_0 0 rfl rfl ?_
  refine G.getR (T := TX7) (N := 7) (C := RX7) (q0 := 0) (i := 4) E dX7_undo_1 iw_X7_undo_7 (wsC_at0 _ _ _) rfl (by decide) rfl (List.mem_of_getElem? (i := 3) rfl) ?_
  refine G.callVi (n := 0) (T := TX3) (N := 10) (C := RX3) (a := h 28) (q0 := 28) (As := []) E dX7_undo_4 (fun _ hv => c_X3_howMany E.wf hv) gX7_undo_X3_howMany rfl rfl rfl (by decide +kernel) ⟨Nat.le_of_ble_eq_true rfl, Nat.le_of_ble_eq_true rfl⟩ (wsC_at28 _ _ _) rfl rfl (Nat.le_of_ble_eq_true rfl) ⟨Nat.le_of_ble_eq_true rfl, Nat.le_of_ble_eq_true rfl⟩ (fun v1 => ?_)
  refine G.if_ne (tgt := 20) E dX7_undo_7 (by decide) ?_ ?_
  · exact G.throwS (q := 3) (text := "there is no move to undo") (cls := "java/lang/IllegalStateException") (names := ["java/lang/RuntimeException", "java/lang/Exception"]) E EX0 (by decide +kernel) (by decide +kernel) (List.mem_of_getElem? (i := 1) rfl) (List.mem_of_getElem? (i := 2) rfl) (by decide +kernel) ia_X7_undo_65 atg_65 (otw_61_65) dX7_undo_10 dX7_undo_13 dX7_undo_14 dX7_undo_16 dX7_undo_19 ⟨Nat.le_of_ble_eq_true rfl, Nat.le_of_ble_eq_true rfl⟩ ⟨Nat.le_of_ble_eq_true rfl, Nat.le_of_ble_eq_true rfl⟩ rfl rfl rfl (Nat.le_of_ble_eq_true rfl) (Nat.le_of_ble_eq_true rfl)
  · refine G.aload_n E dX7_undo_20 0 rfl rfl ?_
    refine G.getR (T := TX7) (N := 7) (C := RX7) (q0 := 0) (i := 4) E dX7_undo_21 iw_X7_undo_7 (wsC_at0 _ _ _) rfl (by decide) rfl (List.mem_of_getElem? (i := 3) rfl) ?_
    refine G.callVv (n := 0) (T := TX3) (N := 10) (C := RX3) (a := h 28) (q0 := 28) (As := []) E dX7_undo_24 (fun _ hv => c_X3_takeBack E.wf hv) gX7_undo_X3_takeBack rfl rfl rfl (by decide +kernel) ⟨Nat.le_of_ble_eq_true rfl, Nat.le_of_ble_eq_true rfl⟩ (wsC_at28 _ _ _) rfl rfl (Nat.le_of_ble_eq_true rfl) ⟨Nat.le_of_ble_eq_true rfl, Nat.le_of_ble_eq_true rfl⟩ (fun s2 => ?_)
    refine G.aload_n E dX7_undo_27 0 rfl rfl ?_
    refine G.getR (T := TX7) (N := 7) (C := RX7) (q0 := 0) (i := 4) E dX7_undo_28 iw_X7_undo_7 (wsC_at0 _ _ _) rfl (by decide) rfl (List.mem_of_getElem? (i := 3) rfl) ?_
    refine G.callVi (n := 0) (T := TX3) (N := 10) (C := RX3) (a := h 28) (q0 := 28) (As := []) E dX7_undo_31 (fun _ hv => c_X3_howMany E.wf hv) gX7_undo_X3_howMany rfl rfl rfl (by decide +kernel) ⟨Nat.le_of_ble_eq_true rfl, Nat.le_of_ble_eq_true rfl⟩ (wsC_at28 _ _ _) rfl rfl (Nat.le_of_ble_eq_true rfl) ⟨Nat.le_of_ble_eq_true rfl, Nat.le_of_ble_eq_true rfl⟩ (fun v3 => ?_)
    exact G.x_iret E dX7_undo_34 rfl (Nat.le_of_ble_eq_true rfl) (Nat.le_of_ble_eq_true rfl) rfl rfl
set_option maxHeartbeats 4000000 in
set_option maxRecDepth 100000 in
theorem ia_X7_value_87 : ∀ w ∈ (vx_atS RX7 87 "java/lang/IllegalArgumentException" ["java/lang/RuntimeException", "java/lang/Exception"]).filter goodWord, w ∈ wsX7_value := fun w h => List.mem_cons_of_mem _ (List.mem_append_left _ (List.mem_append_right _ h))
abbrev rm_X7_value : Room := { frames := 9, cells := 2, slots := 12, locals := 141 }
noncomputable def f_X7_value (N : Nat) (σ : Wd) (a0 : Int32) (a1 : Int32) : Option ((Nat ⊕ Unit) × Wd) :=
  bX (f_X7_needEdge N σ a0) fun v1 s2 =>
  jn (fun (_u : Unit) => ((
    some (.inl 2, s2)) : Option ((Nat ⊕ Unit) × Wd))) fun j17 =>
  if a1 < (-99) then (
    j17 ())
  else (
    if a1 ≤ 99 then (
      bP (f_X7_setValue N s2 a0 a1) fun s3 =>
      some (.inr (), s3))
    else (
      j17 ()))
set_option maxHeartbeats 4000000 in
set_option maxRecDepth 100000 in
theorem c_X7_value {l : Launch} {D : va_G} {cy : Nat → ClassId} {h : Nat → Nat} {N : Nat} {σ : Wd} {a0 : Int32} {a1 : Int32} {r : (Nat ⊕ Unit) × Wd} (hW : WF (wsC cy h) (adC h)) (hfl : l.stackTraces = false) (hr : f_X7_value N σ a0 a1 = some r) : ConX l D cy (wsC cy h) (adC h) yX7_value wsX7_value rm_X7_value 2 12 [.ref (h 0), .int a0, .int a1] (ooV r) σ r.2 := by
  refine ConX.of (lv0 := [(0, .ref (h 0)), (1, .int a0), (2, .int a1)]) (σ := σ) ooV (fun r => r.2) (by decide) rfl rfl (Nat.le_of_ble_eq_true rfl) rfl hW hfl hr (fun p e s m args below meth c E EX0 => ?_)
  unfold f_X7_value
  refine G.aload_n E dX7_value_0 0 rfl rfl ?_
  refine G.iload_n E dX7_value_1 1 rfl rfl ?_
  refine G.callXv (n := 1) (T := TX7) (N := 7) (C := RX7) (a := h 0) (q0 := 0) (As := [.int a0]) E EX0 dX7_value_2 (fun _ hv => c_X7_needEdge E.wf EX0.1 hv) gX7_value_X7_needEdge rfl rfl rfl (by decide +kernel) ⟨(Nat.le_of_ble_eq_true rfl), (Nat.le_of_ble_eq_true rfl)⟩ (wsC_at0 _ _ _) rfl rfl (Nat.le_of_ble_eq_true rfl) ⟨(Nat.le_of_ble_eq_true rfl), (Nat.le_of_ble_eq_true rfl)⟩ (Nat.le_of_ble_eq_true rfl) (Nat.le_of_ble_eq_true rfl) (fun _ _ => rfl) (fun v1 s2 => ?_)
  refine G.iload_n E dX7_value_5 2 rfl rfl ?_
  refine G.bipush (v := (-99)) E dX7_value_6 (by decide) ?_
  refine G.jn (P := fun j => ∀ (_u : Unit), G p l e (headSpec wsX7_value rm_X7_value).room s m args below meth c 3 1 6 D (wsC cy h) (adC h) (QX D (wsC cy h) (adC h) below args s 2 12 ooV (fun r => r.2)) 17 [] [] s2 (j _u)) ?_ (fun j17 hj17 => ?_)
  · intro _u
    exact G.throwS (q := 2) (text := "a value is -99 to 99") (cls := "java/lang/IllegalArgumentException") (names := ["java/lang/RuntimeException", "java/lang/Exception"]) E EX0 (by decide +kernel) (by decide +kernel) (List.mem_of_getElem? (i := 1) rfl) (List.mem_of_getElem? (i := 2) rfl) (by decide +kernel) ia_X7_value_87 atg_87 (otw_83_87) dX7_value_17 dX7_value_20 dX7_value_21 dX7_value_23 dX7_value_26 ⟨Nat.le_of_ble_eq_true rfl, Nat.le_of_ble_eq_true rfl⟩ ⟨Nat.le_of_ble_eq_true rfl, Nat.le_of_ble_eq_true rfl⟩ rfl rfl rfl (Nat.le_of_ble_eq_true rfl) (Nat.le_of_ble_eq_true rfl)
  · refine G.icmp_lt (tgt := 17) E dX7_value_8 (by decide) ?_ ?_
    · refine G.loc [] rfl ?_
      exact hj17 ()
    · refine G.iload_n E dX7_value_11 2 rfl rfl ?_
      refine G.bipush (v := 99) E dX7_value_12 (by decide) ?_
      refine G.icmp_le (tgt := 27) E dX7_value_14 (by decide) ?_ ?_
      · refine G.aload_n E dX7_value_27 0 rfl rfl ?_
        refine G.iload_n E dX7_value_28 1 rfl rfl ?_
        refine G.iload_n E dX7_value_29 2 rfl rfl ?_
        refine G.callVv (n := 2) (T := TX7) (N := 7) (C := RX7) (a := h 0) (q0 := 0) (As := [.int a0, .int a1]) E dX7_value_30 (fun _ hv => c_X7_setValue E.wf hv) gX7_value_X7_setValue rfl rfl rfl (by decide +kernel) ⟨Nat.le_of_ble_eq_true rfl, Nat.le_of_ble_eq_true rfl⟩ (wsC_at0 _ _ _) rfl rfl (Nat.le_of_ble_eq_true rfl) ⟨Nat.le_of_ble_eq_true rfl, Nat.le_of_ble_eq_true rfl⟩ (fun s3 => ?_)
        exact G.x_vret E dX7_value_33 rfl (Nat.le_of_ble_eq_true rfl) (Nat.le_of_ble_eq_true rfl) rfl rfl
      · refine G.loc [] rfl ?_
        exact hj17 ()
set_option maxHeartbeats 4000000 in
set_option maxRecDepth 100000 in
theorem iw_X7_wire_4 : ∀ w ∈ u_ws RX4 TX4 8, w ∈ wsX7_wire := fun _ h => List.mem_cons_of_mem _ (List.mem_append_left _ (List.mem_append_left _ (List.mem_append_left _ (List.mem_append_left _ (List.mem_append_right _ h)))))
set_option maxHeartbeats 4000000 in
set_option maxRecDepth 100000 in
theorem iw_X7_wire_7 : ∀ w ∈ u_ws RX7 TX7 7, w ∈ wsX7_wire := fun _ h => List.mem_cons_of_mem _ (List.mem_append_left _ (List.mem_append_left _ (List.mem_append_left _ (List.mem_append_left _ (List.mem_append_left _ (List.mem_append_right _ h))))))
set_option maxHeartbeats 4000000 in
set_option maxRecDepth 100000 in
theorem ia_X7_wire_65 : ∀ w ∈ (vx_atS RX7 65 "java/lang/IllegalStateException" ["java/lang/RuntimeException", "java/lang/Exception"]).filter goodWord, w ∈ wsX7_wire := fun w h => List.mem_cons_of_mem _ (List.mem_append_left _ (List.mem_append_right _ h))
set_option maxHeartbeats 4000000 in
set_option maxRecDepth 100000 in
theorem ia_X7_wire_87 : ∀ w ∈ (vx_atS RX7 87 "java/lang/IllegalArgumentException" ["java/lang/RuntimeException", "java/lang/Exception"]).filter goodWord, w ∈ wsX7_wire := fun w h => List.mem_cons_of_mem _ (List.mem_append_left _ (List.mem_append_left _ (List.mem_append_right _ h)))
abbrev rm_X7_wire : Room := { frames := 9, cells := 3, slots := 18, locals := 141 }
noncomputable def f_X7_wire (N : Nat) (σ : Wd) (a0 : Int32) (a1 : Int32) (a2 : Int32) : Option ((Nat ⊕ Int32) × Wd) :=
  bX (f_X7_needNode N σ a0) fun v1 s2 =>
  bX (f_X7_needNode N s2 a1) fun v3 s4 =>
  bP (f_X7_isConductance N a2) fun v5 =>
  if v5 = 0 then (
    some (.inl 2, s4))
  else (
    bP (f_X4_hasRoom N s4 0 1) fun v6 =>
    jn (fun (_u : Unit) => ((
      some (.inl 3, s4)) : Option ((Nat ⊕ Int32) × Wd))) fun j54 =>
    if v6 = 0 then (
      j54 ())
    else (
      gI s4 1 2 fun v7 =>
      bP (f_J6_bitCount_0f7a4 N v7) fun v8 =>
      if v8 < 12 then (
        bP (f_X3_forget N s4) fun s9 =>
        bS (f_X4_addWire N s9 a0 a1 a2) fun v10 s11 =>
        some (.inr v10, s11))
      else (
        j54 ())))
set_option maxHeartbeats 4000000 in
set_option maxRecDepth 100000 in
theorem c_X7_wire {l : Launch} {D : va_G} {cy : Nat → ClassId} {h : Nat → Nat} {N : Nat} {σ : Wd} {a0 : Int32} {a1 : Int32} {a2 : Int32} {r : (Nat ⊕ Int32) × Wd} (hW : WF (wsC cy h) (adC h)) (hfl : l.stackTraces = false) (hr : f_X7_wire N σ a0 a1 a2 = some r) : ConX l D cy (wsC cy h) (adC h) yX7_wire wsX7_wire rm_X7_wire 3 18 [.ref (h 0), .int a0, .int a1, .int a2] (ooI r) σ r.2 := by
  refine ConX.of (lv0 := [(0, .ref (h 0)), (1, .int a0), (2, .int a1), (3, .int a2)]) (σ := σ) ooI (fun r => r.2) (by decide) rfl rfl (Nat.le_of_ble_eq_true rfl) rfl hW hfl hr (fun p e s m args below meth c E EX0 => ?_)
  unfold f_X7_wire
  refine G.aload_n E dX7_wire_0 0 rfl rfl ?_
  refine G.iload_n E dX7_wire_1 1 rfl rfl ?_
  refine G.callXv (n := 1) (T := TX7) (N := 7) (C := RX7) (a := h 0) (q0 := 0) (As := [.int a0]) E EX0 dX7_wire_2 (fun _ hv => c_X7_needNode E.wf EX0.1 hv) gX7_wire_X7_needNode rfl rfl rfl (by decide +kernel) ⟨(Nat.le_of_ble_eq_true rfl), (Nat.le_of_ble_eq_true rfl)⟩ (wsC_at0 _ _ _) rfl rfl (Nat.le_of_ble_eq_true rfl) ⟨(Nat.le_of_ble_eq_true rfl), (Nat.le_of_ble_eq_true rfl)⟩ (Nat.le_of_ble_eq_true rfl) (Nat.le_of_ble_eq_true rfl) (fun _ _ => rfl) (fun v1 s2 => ?_)
  refine G.aload_n E dX7_wire_5 0 rfl rfl ?_
  refine G.iload_n E dX7_wire_6 2 rfl rfl ?_
  refine G.callXv (n := 1) (T := TX7) (N := 7) (C := RX7) (a := h 0) (q0 := 0) (As := [.int a1]) E EX0 dX7_wire_7 (fun _ hv => c_X7_needNode E.wf EX0.1 hv) gX7_wire_X7_needNode rfl rfl rfl (by decide +kernel) ⟨(Nat.le_of_ble_eq_true rfl), (Nat.le_of_ble_eq_true rfl)⟩ (wsC_at0 _ _ _) rfl rfl (Nat.le_of_ble_eq_true rfl) ⟨(Nat.le_of_ble_eq_true rfl), (Nat.le_of_ble_eq_true rfl)⟩ (Nat.le_of_ble_eq_true rfl) (Nat.le_of_ble_eq_true rfl) (fun _ _ => rfl) (fun v3 s4 => ?_)
  refine G.iload_n E dX7_wire_10 3 rfl rfl ?_
  refine G.callSi (n := 1) (As := [.int a2]) E dX7_wire_11 (fun _ hv => c_X7_isConductance E.wf hv) gX7_wire_X7_isConductance rfl rfl rfl (by decide +kernel) ⟨Nat.le_of_ble_eq_true rfl, Nat.le_of_ble_eq_true rfl⟩ rfl (Nat.le_of_ble_eq_true rfl) ⟨Nat.le_of_ble_eq_true rfl, Nat.le_of_ble_eq_true rfl⟩ (fun v5 => ?_)
  refine G.if_ne (tgt := 27) E dX7_wire_14 (by decide) ?_ ?_
  · exact G.throwS (q := 2) (text := "a conductance is 1 to 60") (cls := "java/lang/IllegalArgumentException") (names := ["java/lang/RuntimeException", "java/lang/Exception"]) E EX0 (by decide +kernel) (by decide +kernel) (List.mem_of_getElem? (i := 1) rfl) (List.mem_of_getElem? (i := 2) rfl) (by decide +kernel) ia_X7_wire_87 atg_87 (otw_83_87) dX7_wire_17 dX7_wire_20 dX7_wire_21 dX7_wire_23 dX7_wire_26 ⟨Nat.le_of_ble_eq_true rfl, Nat.le_of_ble_eq_true rfl⟩ ⟨Nat.le_of_ble_eq_true rfl, Nat.le_of_ble_eq_true rfl⟩ rfl rfl rfl (Nat.le_of_ble_eq_true rfl) (Nat.le_of_ble_eq_true rfl)
  · refine G.aload_n E dX7_wire_27 0 rfl rfl ?_
    refine G.getR (T := TX7) (N := 7) (C := RX7) (q0 := 0) (i := 0) E dX7_wire_28 iw_X7_wire_7 (wsC_at0 _ _ _) rfl (by decide) rfl (List.mem_of_getElem? (i := 5) rfl) ?_
    refine G.iconst (v := 0) E dX7_wire_31 (by decide) ?_
    refine G.iconst (v := 1) E dX7_wire_32 (by decide) ?_
    refine G.callVi (n := 2) (T := TX4) (N := 8) (C := RX4) (a := h 1) (q0 := 1) (As := [.int 0, .int 1]) E dX7_wire_33 (fun _ hv => c_X4_hasRoom E.wf hv) gX7_wire_X4_hasRoom rfl rfl rfl (by decide +kernel) ⟨Nat.le_of_ble_eq_true rfl, Nat.le_of_ble_eq_true rfl⟩ (wsC_at1 _ _ _) rfl rfl (Nat.le_of_ble_eq_true rfl) ⟨Nat.le_of_ble_eq_true rfl, Nat.le_of_ble_eq_true rfl⟩ (fun v6 => ?_)
    refine G.jn (P := fun j => ∀ (_u : Unit), G p l e (headSpec wsX7_wire rm_X7_wire).room s m args below meth c 4 2 12 D (wsC cy h) (adC h) (QX D (wsC cy h) (adC h) below args s 3 18 ooI (fun r => r.2)) 54 [] [] s4 (j _u)) ?_ (fun j54 hj54 => ?_)
    · intro _u
      exact G.throwS (q := 3) (text := "there were 20 wires, or there are 12") (cls := "java/lang/IllegalStateException") (names := ["java/lang/RuntimeException", "java/lang/Exception"]) E EX0 (by decide +kernel) (by decide +kernel) (List.mem_of_getElem? (i := 3) rfl) (List.mem_of_getElem? (i := 4) rfl) (by decide +kernel) ia_X7_wire_65 atg_65 (otw_61_65) dX7_wire_54 dX7_wire_57 dX7_wire_58 dX7_wire_60 dX7_wire_63 ⟨Nat.le_of_ble_eq_true rfl, Nat.le_of_ble_eq_true rfl⟩ ⟨Nat.le_of_ble_eq_true rfl, Nat.le_of_ble_eq_true rfl⟩ rfl rfl rfl (Nat.le_of_ble_eq_true rfl) (Nat.le_of_ble_eq_true rfl)
    · refine G.if_eq (tgt := 54) E dX7_wire_36 (by decide) ?_ ?_
      · refine G.loc [] rfl ?_
        exact hj54 ()
      · refine G.aload_n E dX7_wire_39 0 rfl rfl ?_
        refine G.getR (T := TX7) (N := 7) (C := RX7) (q0 := 0) (i := 0) E dX7_wire_40 iw_X7_wire_7 (wsC_at0 _ _ _) rfl (by decide) rfl (List.mem_of_getElem? (i := 5) rfl) ?_
        refine G.getI (T := TX4) (N := 8) (C := RX4) (q0 := 1) (i := 2) E dX7_wire_43 iw_X7_wire_4 (wsC_at1 _ _ _) rfl (by decide) rfl (List.mem_of_getElem? (i := 6) rfl) (fun v7 => ?_)
        refine G.callSi (n := 1) (As := [.int v7]) E dX7_wire_46 (fun _ hv => c_J6_bitCount_0f7a4 E.wf hv) gX7_wire_J6_bitCount_0f7a4 rfl rfl rfl (by decide +kernel) ⟨Nat.le_of_ble_eq_true rfl, Nat.le_of_ble_eq_true rfl⟩ rfl (Nat.le_of_ble_eq_true rfl) ⟨Nat.le_of_ble_eq_true rfl, Nat.le_of_ble_eq_true rfl⟩ (fun v8 => ?_)
        refine G.bipush (v := 12) E dX7_wire_49 (by decide) ?_
        refine G.icmp_lt (tgt := 64) E dX7_wire_51 (by decide) ?_ ?_
        · refine G.aload_n E dX7_wire_64 0 rfl rfl ?_
          refine G.getR (T := TX7) (N := 7) (C := RX7) (q0 := 0) (i := 4) E dX7_wire_65 iw_X7_wire_7 (wsC_at0 _ _ _) rfl (by decide) rfl (List.mem_of_getElem? (i := 7) rfl) ?_
          refine G.callVv (n := 0) (T := TX3) (N := 10) (C := RX3) (a := h 28) (q0 := 28) (As := []) E dX7_wire_68 (fun _ hv => c_X3_forget E.wf hv) gX7_wire_X3_forget rfl rfl rfl (by decide +kernel) ⟨Nat.le_of_ble_eq_true rfl, Nat.le_of_ble_eq_true rfl⟩ (wsC_at28 _ _ _) rfl rfl (Nat.le_of_ble_eq_true rfl) ⟨Nat.le_of_ble_eq_true rfl, Nat.le_of_ble_eq_true rfl⟩ (fun s9 => ?_)
          refine G.aload_n E dX7_wire_71 0 rfl rfl ?_
          refine G.getR (T := TX7) (N := 7) (C := RX7) (q0 := 0) (i := 0) E dX7_wire_72 iw_X7_wire_7 (wsC_at0 _ _ _) rfl (by decide) rfl (List.mem_of_getElem? (i := 5) rfl) ?_
          refine G.iload_n E dX7_wire_75 1 rfl rfl ?_
          refine G.iload_n E dX7_wire_76 2 rfl rfl ?_
          refine G.iload_n E dX7_wire_77 3 rfl rfl ?_
          refine G.callVis (n := 3) (T := TX4) (N := 8) (C := RX4) (a := h 1) (q0 := 1) (As := [.int a0, .int a1, .int a2]) E dX7_wire_78 (fun _ _ hv => c_X4_addWire E.wf hv) gX7_wire_X4_addWire rfl rfl rfl (by decide +kernel) ⟨Nat.le_of_ble_eq_true rfl, Nat.le_of_ble_eq_true rfl⟩ (wsC_at1 _ _ _) rfl rfl (Nat.le_of_ble_eq_true rfl) ⟨Nat.le_of_ble_eq_true rfl, Nat.le_of_ble_eq_true rfl⟩ (fun v10 s11 => ?_)
          exact G.x_iret E dX7_wire_81 rfl (Nat.le_of_ble_eq_true rfl) (Nat.le_of_ble_eq_true rfl) rfl rfl
        · refine G.loc [] rfl ?_
          exact hj54 ()
set_option maxHeartbeats 4000000 in
set_option maxRecDepth 100000 in
theorem iw_X7_wireIs_7 : ∀ w ∈ u_ws RX7 TX7 7, w ∈ wsX7_wireIs := fun _ h => List.mem_cons_of_mem _ (List.mem_append_left _ (List.mem_append_left _ (List.mem_append_left _ (List.mem_append_right _ h))))
set_option maxHeartbeats 4000000 in
set_option maxRecDepth 100000 in
theorem ia_X7_wireIs_87 : ∀ w ∈ (vx_atS RX7 87 "java/lang/IllegalArgumentException" ["java/lang/RuntimeException", "java/lang/Exception"]).filter goodWord, w ∈ wsX7_wireIs := fun w h => List.mem_cons_of_mem _ (List.mem_append_left _ (List.mem_append_right _ h))
abbrev rm_X7_wireIs : Room := { frames := 9, cells := 2, slots := 12, locals := 141 }
noncomputable def f_X7_wireIs (N : Nat) (σ : Wd) (a0 : Int32) (a1 : Int32) : Option ((Nat ⊕ Int32) × Wd) :=
  bX (f_X7_needWire N σ a0) fun v1 s2 =>
  jn (fun (_u : Unit) => ((
    some (.inl 2, s2)) : Option ((Nat ⊕ Int32) × Wd))) fun j14 =>
  if a1 < 0 then (
    j14 ())
  else (
    if a1 ≤ 2 then (
      if a1 = 0 then (
        bP (f_X4_firstOf N s2 a0) fun v5 =>
        some (.inr v5, s2))
      else (
        if a1 = 1 then (
          bP (f_X4_secondOf N s2 a0) fun v4 =>
          some (.inr v4, s2))
        else (
          bP (f_X4_conductanceOf N s2 a0) fun v3 =>
          some (.inr v3, s2))))
    else (
      j14 ()))
set_option maxHeartbeats 4000000 in
set_option maxRecDepth 100000 in
theorem c_X7_wireIs {l : Launch} {D : va_G} {cy : Nat → ClassId} {h : Nat → Nat} {N : Nat} {σ : Wd} {a0 : Int32} {a1 : Int32} {r : (Nat ⊕ Int32) × Wd} (hW : WF (wsC cy h) (adC h)) (hfl : l.stackTraces = false) (hr : f_X7_wireIs N σ a0 a1 = some r) : ConX l D cy (wsC cy h) (adC h) yX7_wireIs wsX7_wireIs rm_X7_wireIs 2 12 [.ref (h 0), .int a0, .int a1] (ooI r) σ r.2 := by
  refine ConX.of (lv0 := [(0, .ref (h 0)), (1, .int a0), (2, .int a1)]) (σ := σ) ooI (fun r => r.2) (by decide) rfl rfl (Nat.le_of_ble_eq_true rfl) rfl hW hfl hr (fun p e s m args below meth c E EX0 => ?_)
  unfold f_X7_wireIs
  refine G.aload_n E dX7_wireIs_0 0 rfl rfl ?_
  refine G.iload_n E dX7_wireIs_1 1 rfl rfl ?_
  refine G.callXv (n := 1) (T := TX7) (N := 7) (C := RX7) (a := h 0) (q0 := 0) (As := [.int a0]) E EX0 dX7_wireIs_2 (fun _ hv => c_X7_needWire E.wf EX0.1 hv) gX7_wireIs_X7_needWire rfl rfl rfl (by decide +kernel) ⟨(Nat.le_of_ble_eq_true rfl), (Nat.le_of_ble_eq_true rfl)⟩ (wsC_at0 _ _ _) rfl rfl (Nat.le_of_ble_eq_true rfl) ⟨(Nat.le_of_ble_eq_true rfl), (Nat.le_of_ble_eq_true rfl)⟩ (Nat.le_of_ble_eq_true rfl) (Nat.le_of_ble_eq_true rfl) (fun _ _ => rfl) (fun v1 s2 => ?_)
  refine G.iload_n E dX7_wireIs_5 2 rfl rfl ?_
  refine G.jn (P := fun j => ∀ (_u : Unit), G p l e (headSpec wsX7_wireIs rm_X7_wireIs).room s m args below meth c 3 1 6 D (wsC cy h) (adC h) (QX D (wsC cy h) (adC h) below args s 2 12 ooI (fun r => r.2)) 14 [] [] s2 (j _u)) ?_ (fun j14 hj14 => ?_)
  · intro _u
    exact G.throwS (q := 2) (text := "what is 0 to 2") (cls := "java/lang/IllegalArgumentException") (names := ["java/lang/RuntimeException", "java/lang/Exception"]) E EX0 (by decide +kernel) (by decide +kernel) (List.mem_of_getElem? (i := 1) rfl) (List.mem_of_getElem? (i := 2) rfl) (by decide +kernel) ia_X7_wireIs_87 atg_87 (otw_83_87) dX7_wireIs_14 dX7_wireIs_17 dX7_wireIs_18 dX7_wireIs_20 dX7_wireIs_23 ⟨Nat.le_of_ble_eq_true rfl, Nat.le_of_ble_eq_true rfl⟩ ⟨Nat.le_of_ble_eq_true rfl, Nat.le_of_ble_eq_true rfl⟩ rfl rfl rfl (Nat.le_of_ble_eq_true rfl) (Nat.le_of_ble_eq_true rfl)
  · refine G.if_lt (tgt := 14) E dX7_wireIs_6 (by decide) ?_ ?_
    · refine G.loc [] rfl ?_
      exact hj14 ()
    · refine G.iload_n E dX7_wireIs_9 2 rfl rfl ?_
      refine G.iconst (v := 2) E dX7_wireIs_10 (by decide) ?_
      refine G.icmp_le (tgt := 24) E dX7_wireIs_11 (by decide) ?_ ?_
      · refine G.iload_n E dX7_wireIs_24 2 rfl rfl ?_
        refine G.if_ne (tgt := 37) E dX7_wireIs_25 (by decide) ?_ ?_
        · refine G.aload_n E dX7_wireIs_28 0 rfl rfl ?_
          refine G.getR (T := TX7) (N := 7) (C := RX7) (q0 := 0) (i := 0) E dX7_wireIs_29 iw_X7_wireIs_7 (wsC_at0 _ _ _) rfl (by decide) rfl (List.mem_of_getElem? (i := 3) rfl) ?_
          refine G.iload_n E dX7_wireIs_32 1 rfl rfl ?_
          refine G.callVi (n := 1) (T := TX4) (N := 8) (C := RX4) (a := h 1) (q0 := 1) (As := [.int a0]) E dX7_wireIs_33 (fun _ hv => c_X4_firstOf E.wf hv) gX7_wireIs_X4_firstOf rfl rfl rfl (by decide +kernel) ⟨Nat.le_of_ble_eq_true rfl, Nat.le_of_ble_eq_true rfl⟩ (wsC_at1 _ _ _) rfl rfl (Nat.le_of_ble_eq_true rfl) ⟨Nat.le_of_ble_eq_true rfl, Nat.le_of_ble_eq_true rfl⟩ (fun v5 => ?_)
          exact G.x_iret E dX7_wireIs_36 rfl (Nat.le_of_ble_eq_true rfl) (Nat.le_of_ble_eq_true rfl) rfl rfl
        · refine G.iload_n E dX7_wireIs_37 2 rfl rfl ?_
          refine G.iconst (v := 1) E dX7_wireIs_38 (by decide) ?_
          refine G.icmp_ne (tgt := 53) E dX7_wireIs_39 (by decide) ?_ ?_
          · refine G.aload_n E dX7_wireIs_42 0 rfl rfl ?_
            refine G.getR (T := TX7) (N := 7) (C := RX7) (q0 := 0) (i := 0) E dX7_wireIs_43 iw_X7_wireIs_7 (wsC_at0 _ _ _) rfl (by decide) rfl (List.mem_of_getElem? (i := 3) rfl) ?_
            refine G.iload_n E dX7_wireIs_46 1 rfl rfl ?_
            refine G.callVi (n := 1) (T := TX4) (N := 8) (C := RX4) (a := h 1) (q0 := 1) (As := [.int a0]) E dX7_wireIs_47 (fun _ hv => c_X4_secondOf E.wf hv) gX7_wireIs_X4_secondOf rfl rfl rfl (by decide +kernel) ⟨Nat.le_of_ble_eq_true rfl, Nat.le_of_ble_eq_true rfl⟩ (wsC_at1 _ _ _) rfl rfl (Nat.le_of_ble_eq_true rfl) ⟨Nat.le_of_ble_eq_true rfl, Nat.le_of_ble_eq_true rfl⟩ (fun v4 => ?_)
            refine G.goto (tgt := 61) E dX7_wireIs_50 (by decide) ?_
            exact G.x_iret E dX7_wireIs_61 rfl (Nat.le_of_ble_eq_true rfl) (Nat.le_of_ble_eq_true rfl) rfl rfl
          · refine G.aload_n E dX7_wireIs_53 0 rfl rfl ?_
            refine G.getR (T := TX7) (N := 7) (C := RX7) (q0 := 0) (i := 0) E dX7_wireIs_54 iw_X7_wireIs_7 (wsC_at0 _ _ _) rfl (by decide) rfl (List.mem_of_getElem? (i := 3) rfl) ?_
            refine G.iload_n E dX7_wireIs_57 1 rfl rfl ?_
            refine G.callVi (n := 1) (T := TX4) (N := 8) (C := RX4) (a := h 1) (q0 := 1) (As := [.int a0]) E dX7_wireIs_58 (fun _ hv => c_X4_conductanceOf E.wf hv) gX7_wireIs_X4_conductanceOf rfl rfl rfl (by decide +kernel) ⟨Nat.le_of_ble_eq_true rfl, Nat.le_of_ble_eq_true rfl⟩ (wsC_at1 _ _ _) rfl rfl (Nat.le_of_ble_eq_true rfl) ⟨Nat.le_of_ble_eq_true rfl, Nat.le_of_ble_eq_true rfl⟩ (fun v3 => ?_)
            exact G.x_iret E dX7_wireIs_61 rfl (Nat.le_of_ble_eq_true rfl) (Nat.le_of_ble_eq_true rfl) rfl rfl
      · refine G.loc [] rfl ?_
        exact hj14 ()
set_option maxHeartbeats 4000000 in
set_option maxRecDepth 100000 in
theorem iw_X7_wires_4 : ∀ w ∈ u_ws RX4 TX4 8, w ∈ wsX7_wires := fun _ h => List.mem_cons_of_mem _ (List.mem_append_right _ h)
set_option maxHeartbeats 4000000 in
set_option maxRecDepth 100000 in
theorem iw_X7_wires_7 : ∀ w ∈ u_ws RX7 TX7 7, w ∈ wsX7_wires := fun _ h => List.mem_cons_of_mem _ (List.mem_append_left _ (List.mem_append_right _ h))
abbrev rm_X7_wires : Room := { frames := 0, cells := 0, slots := 0, locals := 0 }
noncomputable def f_X7_wires (N : Nat) (σ : Wd) : Option (Int32) :=
  gI σ 1 2 fun v1 =>
  some v1
set_option maxHeartbeats 4000000 in
set_option maxRecDepth 100000 in
theorem c_X7_wires {l : Launch} {D : va_G} {cy : Nat → ClassId} {h : Nat → Nat} {N : Nat} {σ : Wd} {r : Int32} (hW : WF (wsC cy h) (adC h)) (hr : f_X7_wires N σ = some r) : Con l D cy (wsC cy h) (adC h) yX7_wires wsX7_wires rm_X7_wires 0 0 [.ref (h 0)] (some (.int r)) σ σ := by
  refine Con.of (ρ := Int32) (lv0 := [(0, .ref (h 0))]) (σ := σ) (fun r : Int32 => some (.int r)) (fun _ => σ) (by decide) rfl rfl (Nat.le_of_ble_eq_true rfl) rfl hW hr (fun p e s m args below meth c E => ?_)
  unfold f_X7_wires
  refine G.aload_n E dX7_wires_0 0 rfl rfl ?_
  refine G.getR (T := TX7) (N := 7) (C := RX7) (q0 := 0) (i := 0) E dX7_wires_1 iw_X7_wires_7 (wsC_at0 _ _ _) rfl (by decide) rfl (List.mem_of_getElem? (i := 1) rfl) ?_
  refine G.getI (T := TX4) (N := 8) (C := RX4) (q0 := 1) (i := 2) E dX7_wires_4 iw_X7_wires_4 (wsC_at1 _ _ _) rfl (by decide) rfl (List.mem_of_getElem? (i := 2) rfl) (fun v1 => ?_)
  exact G.iret E dX7_wires_7 rfl rfl
end TR
