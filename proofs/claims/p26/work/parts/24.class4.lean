section TR
variable {p : Program} {l : Launch} {e : Env} {s : State} {m : MethodId} {args : Array Value} {below : List Frame} {meth : Method} {c : Code} {D : va_G} {cy : Nat → ClassId} {h : Nat → Nat}

abbrev rm_X7_greatestDivisor : Room := { frames := 0, cells := 0, slots := 0, locals := 0 }
noncomputable def fl_X7_greatestDivisor_9 {ρ : Type} (N : Nat) (K : Int64 → Option ρ) : Nat → Int64 → Int64 → Int32 → Option ρ
  | 0, _, _, _ => none
  | n + 1, x4, x6, x8 =>
    if 1000 ≤ x8 then (
      K x4)
    else (
      if (lg_cmp x6 0) = 0 then (
        K x4)
      else (
        mL x4 x6 fun v1 =>
        fl_X7_greatestDivisor_9 N K n x6 v1 (x8 + 1)))
set_option maxHeartbeats 4000000 in
set_option maxRecDepth 100000 in
theorem gl_X7_greatestDivisor_9 {ρ : Type} {Q : ρ → State → Prop} {N : Nat} {σ : Wd} {K : Int64 → Option ρ} (E : EV p s m args meth c cX7_greatestDivisor 11 RX7 wsX7_greatestDivisor (some .long) D cy (wsC cy h) (adC h)) (hK : ∀ (x4' : Int64), G p l e (headSpec wsX7_greatestDivisor rm_X7_greatestDivisor).room s m args below meth c 11 0 0 D (wsC cy h) (adC h) Q 45 [(4, .long (x4'))] [] σ (K x4')) :
  ∀ (n : Nat) (x4 : Int64) (x6 : Int64) (x8 : Int32), G p l e (headSpec wsX7_greatestDivisor rm_X7_greatestDivisor).room s m args below meth c 11 0 0 D (wsC cy h) (adC h) Q 9 [(4, .long x4), (6, .long x6), (8, .int x8)] [] σ (fl_X7_greatestDivisor_9 N K n x4 x6 x8) := by
  intro n
  induction n with
  | zero => intros; exact G.no
  | succ n ih =>
    intro x4 x6 x8
    rw [fl_X7_greatestDivisor_9]
    refine G.iload E dX7_greatestDivisor_9 2 rfl ?_
    refine G.sipush (v := 1000) E dX7_greatestDivisor_11 (by decide) ?_
    refine G.icmp_ge (tgt := 45) E dX7_greatestDivisor_14 (by decide) ?_ ?_
    · refine G.loc [0] rfl ?_
      exact hK x4
    · refine G.lload E dX7_greatestDivisor_17 1 rfl ?_
      refine G.lconst (v := 0) E dX7_greatestDivisor_19 (by decide) ?_
      refine G.lcmp E dX7_greatestDivisor_20 ?_
      refine G.if_eq (tgt := 45) E dX7_greatestDivisor_21 (by decide) ?_ ?_
      · refine G.loc [0] rfl ?_
        exact hK x4
      · refine G.lload E dX7_greatestDivisor_24 0 rfl ?_
        refine G.lload E dX7_greatestDivisor_26 1 rfl ?_
        refine G.lrem E dX7_greatestDivisor_28 (fun v1 => ?_)
        refine G.lstore (lv' := [(9, .long v1), (4, .long x4), (6, .long x6), (8, .int x8)]) E dX7_greatestDivisor_29 (by decide) rfl ?_
        refine G.lload E dX7_greatestDivisor_31 2 rfl ?_
        refine G.lstore (lv' := [(4, .long x6), (9, .long v1), (6, .long x6), (8, .int x8)]) E dX7_greatestDivisor_33 (by decide) rfl ?_
        refine G.lload E dX7_greatestDivisor_35 1 rfl ?_
        refine G.lstore (lv' := [(6, .long v1), (4, .long x6), (9, .long v1), (8, .int x8)]) E dX7_greatestDivisor_37 (by decide) rfl ?_
        refine G.iinc (v := x8 + 1) (lv' := [(8, .int (x8 + 1)), (6, .long v1), (4, .long x6), (9, .long v1)]) E dX7_greatestDivisor_39 3 rfl rfl (by decide) rfl ?_
        refine G.goto (tgt := 9) E dX7_greatestDivisor_42 (by decide) ?_
        refine G.loc [2, 1, 0] rfl ?_
        exact ih x6 v1 (x8 + 1)
noncomputable def f_X7_greatestDivisor (N : Nat) (a0 : Int64) (a1 : Int64) : Option (Int64) :=
  fl_X7_greatestDivisor_9 N (fun v2 =>
    some v2) N a0 a1 0
set_option maxHeartbeats 4000000 in
set_option maxRecDepth 100000 in
theorem c_X7_greatestDivisor {l : Launch} {D : va_G} {cy : Nat → ClassId} {h : Nat → Nat} {N : Nat} {σ : Wd} {a0 : Int64} {a1 : Int64} {r : Int64} (hW : WF (wsC cy h) (adC h)) (hr : f_X7_greatestDivisor N a0 a1 = some r) : Con l D cy (wsC cy h) (adC h) yX7_greatestDivisor wsX7_greatestDivisor rm_X7_greatestDivisor 0 0 [.long a0, .long a1] (some (.long r)) σ σ := by
  refine Con.of (ρ := Int64) (lv0 := [(0, .long a0), (2, .long a1)]) (σ := σ) (fun r : Int64 => some (.long r)) (fun _ => σ) (by decide) rfl rfl (Nat.le_of_ble_eq_true rfl) rfl hW hr (fun p e s m args below meth c E => ?_)
  unfold f_X7_greatestDivisor
  refine G.lload_n E dX7_greatestDivisor_0 0 rfl rfl ?_
  refine G.lstore (lv' := [(4, .long a0), (0, .long a0), (2, .long a1)]) E dX7_greatestDivisor_1 (by decide) rfl ?_
  refine G.lload_n E dX7_greatestDivisor_3 2 rfl rfl ?_
  refine G.lstore (lv' := [(6, .long a1), (4, .long a0), (0, .long a0), (2, .long a1)]) E dX7_greatestDivisor_4 (by decide) rfl ?_
  refine G.iconst (v := 0) E dX7_greatestDivisor_6 (by decide) ?_
  refine G.istore (lv' := [(8, .int 0), (6, .long a1), (4, .long a0), (0, .long a0), (2, .long a1)]) E dX7_greatestDivisor_7 (by decide) rfl ?_
  refine G.loc [2, 1, 0] rfl ?_
  refine gl_X7_greatestDivisor_9 E (fun v2 => ?_) N _ _ _
  refine G.lload E dX7_greatestDivisor_45 0 rfl ?_
  exact G.lret E dX7_greatestDivisor_47 rfl rfl
abbrev rm_X7_partOf : Room := { frames := 1, cells := 0, slots := 0, locals := 30 }
noncomputable def f_X7_partOf (N : Nat) (a0 : Int64) (a1 : Int64) (a2 : Int32) : Option (Int64) :=
  lL (absL a0) fun v1 =>
  bP (f_X7_greatestDivisor N a1 v1) fun v2 =>
  if (lg_cmp a1 0) = 0 then (
    some 0)
  else (
    if (lg_cmp v2 0) = 0 then (
      some 0)
    else (
      if a2 = 0 then (
        dL a0 v2 fun v3 =>
        some v3)
      else (
        dL a1 v2 fun v4 =>
        some v4)))
set_option maxHeartbeats 4000000 in
set_option maxRecDepth 100000 in
theorem c_X7_partOf {l : Launch} {D : va_G} {cy : Nat → ClassId} {h : Nat → Nat} {N : Nat} {σ : Wd} {a0 : Int64} {a1 : Int64} {a2 : Int32} {r : Int64} (hW : WF (wsC cy h) (adC h)) (hr : f_X7_partOf N a0 a1 a2 = some r) : Con l D cy (wsC cy h) (adC h) yX7_partOf wsX7_partOf rm_X7_partOf 0 0 [.long a0, .long a1, .int a2] (some (.long r)) σ σ := by
  refine Con.of (ρ := Int64) (lv0 := [(0, .long a0), (2, .long a1), (4, .int a2)]) (σ := σ) (fun r : Int64 => some (.long r)) (fun _ => σ) (by decide) rfl rfl (Nat.le_of_ble_eq_true rfl) rfl hW hr (fun p e s m args below meth c E => ?_)
  unfold f_X7_partOf
  refine G.lload_n E dX7_partOf_0 1 rfl rfl ?_
  refine G.lload_n E dX7_partOf_1 0 rfl rfl ?_
  refine G.mabs E dX7_partOf_2 (List.mem_of_getElem? (i := 1) rfl) (List.mem_of_getElem? (i := 2) rfl) (List.mem_of_getElem? (i := 3) rfl) (List.mem_of_getElem? (i := 4) rfl) ⟨Nat.le_of_ble_eq_true rfl, Nat.le_of_ble_eq_true rfl⟩ ⟨Nat.le_of_ble_eq_true rfl, Nat.le_of_ble_eq_true rfl⟩ (fun v1 => ?_)
  refine G.callSl (n := 2) (As := [.long a1, .long v1]) E dX7_partOf_5 (fun _ hv => c_X7_greatestDivisor E.wf hv) gX7_partOf_X7_greatestDivisor rfl rfl rfl (by decide +kernel) ⟨Nat.le_of_ble_eq_true rfl, Nat.le_of_ble_eq_true rfl⟩ rfl (Nat.le_of_ble_eq_true rfl) ⟨Nat.le_of_ble_eq_true rfl, Nat.le_of_ble_eq_true rfl⟩ (fun v2 => ?_)
  refine G.lstore (lv' := [(5, .long v2), (0, .long a0), (2, .long a1), (4, .int a2)]) E dX7_partOf_8 (by decide) rfl ?_
  refine G.lload_n E dX7_partOf_10 2 rfl rfl ?_
  refine G.lconst (v := 0) E dX7_partOf_11 (by decide) ?_
  refine G.lcmp E dX7_partOf_12 ?_
  refine G.if_eq (tgt := 23) E dX7_partOf_13 (by decide) ?_ ?_
  · refine G.lconst (v := 0) E dX7_partOf_23 (by decide) ?_
    exact G.lret E dX7_partOf_24 rfl rfl
  · refine G.lload E dX7_partOf_16 0 rfl ?_
    refine G.lconst (v := 0) E dX7_partOf_18 (by decide) ?_
    refine G.lcmp E dX7_partOf_19 ?_
    refine G.if_ne (tgt := 25) E dX7_partOf_20 (by decide) ?_ ?_
    · refine G.lconst (v := 0) E dX7_partOf_23 (by decide) ?_
      exact G.lret E dX7_partOf_24 rfl rfl
    · refine G.iload E dX7_partOf_25 3 rfl ?_
      refine G.if_eq (tgt := 34) E dX7_partOf_27 (by decide) ?_ ?_
      · refine G.lload_n E dX7_partOf_34 1 rfl rfl ?_
        refine G.lload E dX7_partOf_35 0 rfl ?_
        refine G.ldiv E dX7_partOf_37 (fun v3 => ?_)
        exact G.lret E dX7_partOf_38 rfl rfl
      · refine G.lload_n E dX7_partOf_30 2 rfl rfl ?_
        refine G.goto (tgt := 35) E dX7_partOf_31 (by decide) ?_
        refine G.lload E dX7_partOf_35 0 rfl ?_
        refine G.ldiv E dX7_partOf_37 (fun v4 => ?_)
        exact G.lret E dX7_partOf_38 rfl rfl
set_option maxHeartbeats 4000000 in
set_option maxRecDepth 100000 in
theorem ia_X7_answer_87 : ∀ w ∈ (vx_atS RX7 87 "java/lang/IllegalArgumentException" ["java/lang/RuntimeException", "java/lang/Exception"]).filter goodWord, w ∈ wsX7_answer := fun w h => List.mem_cons_of_mem _ (List.mem_append_left _ (List.mem_append_right _ h))
abbrev rm_X7_answer : Room := { frames := 16, cells := 3, slots := 18, locals := 399 }
noncomputable def f_X7_answer (N : Nat) (σ : Wd) (a0 : Int32) (a1 : Int32) (a2 : Int32) : Option ((Nat ⊕ Int64) × Wd) :=
  bX (f_X7_needEdge N σ a0) fun v1 s2 =>
  bX (f_X7_needEdge N s2 a1) fun v3 s4 =>
  if a0 = a1 then (
    some (.inl 2, s4))
  else (
    bS (f_X7_upperOfAnswer N s4 a0 a1) fun v5 s6 =>
    bS (f_X7_countRest N s6) fun v7 s8 =>
    bP (f_X7_partOf N v5 v7 a2) fun v9 =>
    some (.inr v9, s8))
set_option maxHeartbeats 4000000 in
set_option maxRecDepth 100000 in
theorem c_X7_answer {l : Launch} {D : va_G} {cy : Nat → ClassId} {h : Nat → Nat} {N : Nat} {σ : Wd} {a0 : Int32} {a1 : Int32} {a2 : Int32} {r : (Nat ⊕ Int64) × Wd} (hW : WF (wsC cy h) (adC h)) (hfl : l.stackTraces = false) (hr : f_X7_answer N σ a0 a1 a2 = some r) : ConX l D cy (wsC cy h) (adC h) yX7_answer wsX7_answer rm_X7_answer 3 18 [.ref (h 0), .int a0, .int a1, .int a2] (ooL r) σ r.2 := by
  refine ConX.of (lv0 := [(0, .ref (h 0)), (1, .int a0), (2, .int a1), (3, .int a2)]) (σ := σ) ooL (fun r => r.2) (by decide) rfl rfl (Nat.le_of_ble_eq_true rfl) rfl hW hfl hr (fun p e s m args below meth c E EX0 => ?_)
  unfold f_X7_answer
  refine G.aload_n E dX7_answer_0 0 rfl rfl ?_
  refine G.iload_n E dX7_answer_1 1 rfl rfl ?_
  refine G.callXv (n := 1) (T := TX7) (N := 7) (C := RX7) (a := h 0) (q0 := 0) (As := [.int a0]) E EX0 dX7_answer_2 (fun _ hv => c_X7_needEdge E.wf EX0.1 hv) gX7_answer_X7_needEdge rfl rfl rfl (by decide +kernel) ⟨(Nat.le_of_ble_eq_true rfl), (Nat.le_of_ble_eq_true rfl)⟩ (wsC_at0 _ _ _) rfl rfl (Nat.le_of_ble_eq_true rfl) ⟨(Nat.le_of_ble_eq_true rfl), (Nat.le_of_ble_eq_true rfl)⟩ (Nat.le_of_ble_eq_true rfl) (Nat.le_of_ble_eq_true rfl) (fun _ _ => rfl) (fun v1 s2 => ?_)
  refine G.aload_n E dX7_answer_5 0 rfl rfl ?_
  refine G.iload_n E dX7_answer_6 2 rfl rfl ?_
  refine G.callXv (n := 1) (T := TX7) (N := 7) (C := RX7) (a := h 0) (q0 := 0) (As := [.int a1]) E EX0 dX7_answer_7 (fun _ hv => c_X7_needEdge E.wf EX0.1 hv) gX7_answer_X7_needEdge rfl rfl rfl (by decide +kernel) ⟨(Nat.le_of_ble_eq_true rfl), (Nat.le_of_ble_eq_true rfl)⟩ (wsC_at0 _ _ _) rfl rfl (Nat.le_of_ble_eq_true rfl) ⟨(Nat.le_of_ble_eq_true rfl), (Nat.le_of_ble_eq_true rfl)⟩ (Nat.le_of_ble_eq_true rfl) (Nat.le_of_ble_eq_true rfl) (fun _ _ => rfl) (fun v3 s4 => ?_)
  refine G.iload_n E dX7_answer_10 1 rfl rfl ?_
  refine G.iload_n E dX7_answer_11 2 rfl rfl ?_
  refine G.icmp_ne (tgt := 25) E dX7_answer_12 (by decide) ?_ ?_
  · exact G.throwS (q := 2) (text := "the edges are the same") (cls := "java/lang/IllegalArgumentException") (names := ["java/lang/RuntimeException", "java/lang/Exception"]) E EX0 (by decide +kernel) (by decide +kernel) (List.mem_of_getElem? (i := 1) rfl) (List.mem_of_getElem? (i := 2) rfl) (by decide +kernel) ia_X7_answer_87 atg_87 (otw_83_87) dX7_answer_15 dX7_answer_18 dX7_answer_19 dX7_answer_21 dX7_answer_24 ⟨Nat.le_of_ble_eq_true rfl, Nat.le_of_ble_eq_true rfl⟩ ⟨Nat.le_of_ble_eq_true rfl, Nat.le_of_ble_eq_true rfl⟩ rfl rfl rfl (Nat.le_of_ble_eq_true rfl) (Nat.le_of_ble_eq_true rfl)
  · refine G.aload_n E dX7_answer_25 0 rfl rfl ?_
    refine G.iload_n E dX7_answer_26 1 rfl rfl ?_
    refine G.iload_n E dX7_answer_27 2 rfl rfl ?_
    refine G.callVls (n := 2) (T := TX7) (N := 7) (C := RX7) (a := h 0) (q0 := 0) (As := [.int a0, .int a1]) E dX7_answer_28 (fun _ _ hv => c_X7_upperOfAnswer E.wf hv) gX7_answer_X7_upperOfAnswer rfl rfl rfl (by decide +kernel) ⟨Nat.le_of_ble_eq_true rfl, Nat.le_of_ble_eq_true rfl⟩ (wsC_at0 _ _ _) rfl rfl (Nat.le_of_ble_eq_true rfl) ⟨Nat.le_of_ble_eq_true rfl, Nat.le_of_ble_eq_true rfl⟩ (fun v5 s6 => ?_)
    refine G.aload_n E dX7_answer_31 0 rfl rfl ?_
    refine G.callVls (n := 0) (T := TX7) (N := 7) (C := RX7) (a := h 0) (q0 := 0) (As := []) E dX7_answer_32 (fun _ _ hv => c_X7_countRest E.wf hv) gX7_answer_X7_countRest rfl rfl rfl (by decide +kernel) ⟨Nat.le_of_ble_eq_true rfl, Nat.le_of_ble_eq_true rfl⟩ (wsC_at0 _ _ _) rfl rfl (Nat.le_of_ble_eq_true rfl) ⟨Nat.le_of_ble_eq_true rfl, Nat.le_of_ble_eq_true rfl⟩ (fun v7 s8 => ?_)
    refine G.iload_n E dX7_answer_35 3 rfl rfl ?_
    refine G.callSl (n := 3) (As := [.long v5, .long v7, .int a2]) E dX7_answer_36 (fun _ hv => c_X7_partOf E.wf hv) gX7_answer_X7_partOf rfl rfl rfl (by decide +kernel) ⟨Nat.le_of_ble_eq_true rfl, Nat.le_of_ble_eq_true rfl⟩ rfl (Nat.le_of_ble_eq_true rfl) ⟨Nat.le_of_ble_eq_true rfl, Nat.le_of_ble_eq_true rfl⟩ (fun v9 => ?_)
    exact G.x_lret E dX7_answer_39 rfl (Nat.le_of_ble_eq_true rfl) (Nat.le_of_ble_eq_true rfl) rfl rfl
set_option maxHeartbeats 4000000 in
set_option maxRecDepth 100000 in
theorem iw_X7_needNode_7 : ∀ w ∈ u_ws RX7 TX7 7, w ∈ wsX7_needNode := fun _ h => List.mem_cons_of_mem _ (List.mem_append_left _ (List.mem_append_left _ (List.mem_append_right _ h)))
set_option maxHeartbeats 4000000 in
set_option maxRecDepth 100000 in
theorem ia_X7_needNode_187 : ∀ w ∈ (vx_atS RX7 187 "java/lang/IndexOutOfBoundsException" ["java/lang/RuntimeException", "java/lang/Exception"]).filter goodWord, w ∈ wsX7_needNode := fun w h => List.mem_cons_of_mem _ (List.mem_append_right _ h)
abbrev rm_X7_needNode : Room := { frames := 8, cells := 1, slots := 6, locals := 120 }
noncomputable def f_X7_needNode (N : Nat) (σ : Wd) (a0 : Int32) : Option ((Nat ⊕ Unit) × Wd) :=
  bP (f_X4_hasNode N σ a0) fun v1 =>
  if v1 = 0 then (
    some (.inl 1, σ))
  else (
    some (.inr (), σ))
set_option maxHeartbeats 4000000 in
set_option maxRecDepth 100000 in
theorem c_X7_needNode {l : Launch} {D : va_G} {cy : Nat → ClassId} {h : Nat → Nat} {N : Nat} {σ : Wd} {a0 : Int32} {r : (Nat ⊕ Unit) × Wd} (hW : WF (wsC cy h) (adC h)) (hfl : l.stackTraces = false) (hr : f_X7_needNode N σ a0 = some r) : ConX l D cy (wsC cy h) (adC h) yX7_needNode wsX7_needNode rm_X7_needNode 1 6 [.ref (h 0), .int a0] (ooV r) σ r.2 := by
  refine ConX.of (lv0 := [(0, .ref (h 0)), (1, .int a0)]) (σ := σ) ooV (fun r => r.2) (by decide) rfl rfl (Nat.le_of_ble_eq_true rfl) rfl hW hfl hr (fun p e s m args below meth c E EX0 => ?_)
  unfold f_X7_needNode
  refine G.aload_n E dX7_needNode_0 0 rfl rfl ?_
  refine G.getR (T := TX7) (N := 7) (C := RX7) (q0 := 0) (i := 0) E dX7_needNode_1 iw_X7_needNode_7 (wsC_at0 _ _ _) rfl (by decide) rfl (List.mem_of_getElem? (i := 3) rfl) ?_
  refine G.iload_n E dX7_needNode_4 1 rfl rfl ?_
  refine G.callVi (n := 1) (T := TX4) (N := 8) (C := RX4) (a := h 1) (q0 := 1) (As := [.int a0]) E dX7_needNode_5 (fun _ hv => c_X4_hasNode E.wf hv) gX7_needNode_X4_hasNode rfl rfl rfl (by decide +kernel) ⟨Nat.le_of_ble_eq_true rfl, Nat.le_of_ble_eq_true rfl⟩ (wsC_at1 _ _ _) rfl rfl (Nat.le_of_ble_eq_true rfl) ⟨Nat.le_of_ble_eq_true rfl, Nat.le_of_ble_eq_true rfl⟩ (fun v1 => ?_)
  refine G.if_ne (tgt := 21) E dX7_needNode_8 (by decide) ?_ ?_
  · exact G.throwS (q := 1) (text := "there is no such node") (cls := "java/lang/IndexOutOfBoundsException") (names := ["java/lang/RuntimeException", "java/lang/Exception"]) E EX0 (by decide +kernel) (by decide +kernel) (List.mem_of_getElem? (i := 1) rfl) (List.mem_of_getElem? (i := 2) rfl) (by decide +kernel) ia_X7_needNode_187 atg_187 (otw_183_187) dX7_needNode_11 dX7_needNode_14 dX7_needNode_15 dX7_needNode_17 dX7_needNode_20 ⟨Nat.le_of_ble_eq_true rfl, Nat.le_of_ble_eq_true rfl⟩ ⟨Nat.le_of_ble_eq_true rfl, Nat.le_of_ble_eq_true rfl⟩ rfl rfl rfl (Nat.le_of_ble_eq_true rfl) (Nat.le_of_ble_eq_true rfl)
  · exact G.x_vret E dX7_needNode_21 rfl (Nat.le_of_ble_eq_true rfl) (Nat.le_of_ble_eq_true rfl) rfl rfl
set_option maxHeartbeats 4000000 in
set_option maxRecDepth 100000 in
theorem iw_X7_chance_7 : ∀ w ∈ u_ws RX7 TX7 7, w ∈ wsX7_chance := fun _ h => List.mem_cons_of_mem _ (List.mem_append_left _ (List.mem_append_left _ (List.mem_append_left _ (List.mem_append_left _ (List.mem_append_right _ h)))))
set_option maxHeartbeats 4000000 in
set_option maxRecDepth 100000 in
theorem ia_X7_chance_87 : ∀ w ∈ (vx_atS RX7 87 "java/lang/IllegalArgumentException" ["java/lang/RuntimeException", "java/lang/Exception"]).filter goodWord, w ∈ wsX7_chance := fun w h => List.mem_cons_of_mem _ (List.mem_append_left _ (List.mem_append_right _ h))
abbrev rm_X7_chance : Room := { frames := 15, cells := 4, slots := 24, locals := 379 }
noncomputable def f_X7_chance (N : Nat) (σ : Wd) (a0 : Int32) (a1 : Int32) (a2 : Int32) (a3 : Int32) : Option ((Nat ⊕ Int64) × Wd) :=
  bX (f_X7_needNode N σ a0) fun v1 s2 =>
  bX (f_X7_needNode N s2 a1) fun v3 s4 =>
  bX (f_X7_needNode N s4 a2) fun v5 s6 =>
  if a1 = a2 then (
    some (.inl 2, s6))
  else (
    bP (f_X7_setOf N a1) fun v7 =>
    bP (f_X7_setOf N a2) fun v8 =>
    lI (v7 ||| v8) fun v9 =>
    bS (f_X0_countWith N s6 v9 a0 a1) fun v10 s11 =>
    bS (f_X0_count N s11 v9) fun v12 s13 =>
    bP (f_X7_partOf N v10 v12 a3) fun v14 =>
    some (.inr v14, s13))
set_option maxHeartbeats 4000000 in
set_option maxRecDepth 100000 in
theorem c_X7_chance {l : Launch} {D : va_G} {cy : Nat → ClassId} {h : Nat → Nat} {N : Nat} {σ : Wd} {a0 : Int32} {a1 : Int32} {a2 : Int32} {a3 : Int32} {r : (Nat ⊕ Int64) × Wd} (hW : WF (wsC cy h) (adC h)) (hfl : l.stackTraces = false) (hr : f_X7_chance N σ a0 a1 a2 a3 = some r) : ConX l D cy (wsC cy h) (adC h) yX7_chance wsX7_chance rm_X7_chance 4 24 [.ref (h 0), .int a0, .int a1, .int a2, .int a3] (ooL r) σ r.2 := by
  refine ConX.of (lv0 := [(0, .ref (h 0)), (1, .int a0), (2, .int a1), (3, .int a2), (4, .int a3)]) (σ := σ) ooL (fun r => r.2) (by decide) rfl rfl (Nat.le_of_ble_eq_true rfl) rfl hW hfl hr (fun p e s m args below meth c E EX0 => ?_)
  unfold f_X7_chance
  refine G.aload_n E dX7_chance_0 0 rfl rfl ?_
  refine G.iload_n E dX7_chance_1 1 rfl rfl ?_
  refine G.callXv (n := 1) (T := TX7) (N := 7) (C := RX7) (a := h 0) (q0 := 0) (As := [.int a0]) E EX0 dX7_chance_2 (fun _ hv => c_X7_needNode E.wf EX0.1 hv) gX7_chance_X7_needNode rfl rfl rfl (by decide +kernel) ⟨(Nat.le_of_ble_eq_true rfl), (Nat.le_of_ble_eq_true rfl)⟩ (wsC_at0 _ _ _) rfl rfl (Nat.le_of_ble_eq_true rfl) ⟨(Nat.le_of_ble_eq_true rfl), (Nat.le_of_ble_eq_true rfl)⟩ (Nat.le_of_ble_eq_true rfl) (Nat.le_of_ble_eq_true rfl) (fun _ _ => rfl) (fun v1 s2 => ?_)
  refine G.aload_n E dX7_chance_5 0 rfl rfl ?_
  refine G.iload_n E dX7_chance_6 2 rfl rfl ?_
  refine G.callXv (n := 1) (T := TX7) (N := 7) (C := RX7) (a := h 0) (q0 := 0) (As := [.int a1]) E EX0 dX7_chance_7 (fun _ hv => c_X7_needNode E.wf EX0.1 hv) gX7_chance_X7_needNode rfl rfl rfl (by decide +kernel) ⟨(Nat.le_of_ble_eq_true rfl), (Nat.le_of_ble_eq_true rfl)⟩ (wsC_at0 _ _ _) rfl rfl (Nat.le_of_ble_eq_true rfl) ⟨(Nat.le_of_ble_eq_true rfl), (Nat.le_of_ble_eq_true rfl)⟩ (Nat.le_of_ble_eq_true rfl) (Nat.le_of_ble_eq_true rfl) (fun _ _ => rfl) (fun v3 s4 => ?_)
  refine G.aload_n E dX7_chance_10 0 rfl rfl ?_
  refine G.iload_n E dX7_chance_11 3 rfl rfl ?_
  refine G.callXv (n := 1) (T := TX7) (N := 7) (C := RX7) (a := h 0) (q0 := 0) (As := [.int a2]) E EX0 dX7_chance_12 (fun _ hv => c_X7_needNode E.wf EX0.1 hv) gX7_chance_X7_needNode rfl rfl rfl (by decide +kernel) ⟨(Nat.le_of_ble_eq_true rfl), (Nat.le_of_ble_eq_true rfl)⟩ (wsC_at0 _ _ _) rfl rfl (Nat.le_of_ble_eq_true rfl) ⟨(Nat.le_of_ble_eq_true rfl), (Nat.le_of_ble_eq_true rfl)⟩ (Nat.le_of_ble_eq_true rfl) (Nat.le_of_ble_eq_true rfl) (fun _ _ => rfl) (fun v5 s6 => ?_)
  refine G.iload_n E dX7_chance_15 2 rfl rfl ?_
  refine G.iload_n E dX7_chance_16 3 rfl rfl ?_
  refine G.icmp_ne (tgt := 30) E dX7_chance_17 (by decide) ?_ ?_
  · exact G.throwS (q := 2) (text := "the two nodes are the same") (cls := "java/lang/IllegalArgumentException") (names := ["java/lang/RuntimeException", "java/lang/Exception"]) E EX0 (by decide +kernel) (by decide +kernel) (List.mem_of_getElem? (i := 1) rfl) (List.mem_of_getElem? (i := 2) rfl) (by decide +kernel) ia_X7_chance_87 atg_87 (otw_83_87) dX7_chance_20 dX7_chance_23 dX7_chance_24 dX7_chance_26 dX7_chance_29 ⟨Nat.le_of_ble_eq_true rfl, Nat.le_of_ble_eq_true rfl⟩ ⟨Nat.le_of_ble_eq_true rfl, Nat.le_of_ble_eq_true rfl⟩ rfl rfl rfl (Nat.le_of_ble_eq_true rfl) (Nat.le_of_ble_eq_true rfl)
  · refine G.iload_n E dX7_chance_30 2 rfl rfl ?_
    refine G.callSi (n := 1) (As := [.int a1]) E dX7_chance_31 (fun _ hv => c_X7_setOf E.wf hv) gX7_chance_X7_setOf rfl rfl rfl (by decide +kernel) ⟨Nat.le_of_ble_eq_true rfl, Nat.le_of_ble_eq_true rfl⟩ rfl (Nat.le_of_ble_eq_true rfl) ⟨Nat.le_of_ble_eq_true rfl, Nat.le_of_ble_eq_true rfl⟩ (fun v7 => ?_)
    refine G.iload_n E dX7_chance_34 3 rfl rfl ?_
    refine G.callSi (n := 1) (As := [.int a2]) E dX7_chance_35 (fun _ hv => c_X7_setOf E.wf hv) gX7_chance_X7_setOf rfl rfl rfl (by decide +kernel) ⟨Nat.le_of_ble_eq_true rfl, Nat.le_of_ble_eq_true rfl⟩ rfl (Nat.le_of_ble_eq_true rfl) ⟨Nat.le_of_ble_eq_true rfl, Nat.le_of_ble_eq_true rfl⟩ (fun v8 => ?_)
    refine G.ior E dX7_chance_38 ?_
    refine G.letI (fun v9 => ?_)
    refine G.istore (lv' := [(5, .int v9), (0, .ref (h 0)), (1, .int a0), (2, .int a1), (3, .int a2), (4, .int a3)]) E dX7_chance_39 (by decide) rfl ?_
    refine G.aload_n E dX7_chance_41 1 rfl rfl ?_
    refine G.getR (T := TX7) (N := 7) (C := RX7) (q0 := 0) (i := 1) E dX7_chance_42 iw_X7_chance_7 (wsC_at0 _ _ _) rfl (by decide) rfl (List.mem_of_getElem? (i := 3) rfl) ?_
    refine G.iload E dX7_chance_45 0 rfl ?_
    refine G.iload_n E dX7_chance_47 2 rfl rfl ?_
    refine G.iload_n E dX7_chance_48 3 rfl rfl ?_
    refine G.callVls (n := 3) (T := TX0) (N := 9) (C := RX0) (a := h 5) (q0 := 5) (As := [.int v9, .int a0, .int a1]) E dX7_chance_49 (fun _ _ hv => c_X0_countWith E.wf hv) gX7_chance_X0_countWith rfl rfl rfl (by decide +kernel) ⟨Nat.le_of_ble_eq_true rfl, Nat.le_of_ble_eq_true rfl⟩ (wsC_at5 _ _ _) rfl rfl (Nat.le_of_ble_eq_true rfl) ⟨Nat.le_of_ble_eq_true rfl, Nat.le_of_ble_eq_true rfl⟩ (fun v10 s11 => ?_)
    refine G.aload_n E dX7_chance_52 1 rfl rfl ?_
    refine G.getR (T := TX7) (N := 7) (C := RX7) (q0 := 0) (i := 1) E dX7_chance_53 iw_X7_chance_7 (wsC_at0 _ _ _) rfl (by decide) rfl (List.mem_of_getElem? (i := 3) rfl) ?_
    refine G.iload E dX7_chance_56 0 rfl ?_
    refine G.callVls (n := 1) (T := TX0) (N := 9) (C := RX0) (a := h 5) (q0 := 5) (As := [.int v9]) E dX7_chance_58 (fun _ _ hv => c_X0_count E.wf hv) gX7_chance_X0_count rfl rfl rfl (by decide +kernel) ⟨Nat.le_of_ble_eq_true rfl, Nat.le_of_ble_eq_true rfl⟩ (wsC_at5 _ _ _) rfl rfl (Nat.le_of_ble_eq_true rfl) ⟨Nat.le_of_ble_eq_true rfl, Nat.le_of_ble_eq_true rfl⟩ (fun v12 s13 => ?_)
    refine G.iload E dX7_chance_61 5 rfl ?_
    refine G.callSl (n := 3) (As := [.long v10, .long v12, .int a3]) E dX7_chance_63 (fun _ hv => c_X7_partOf E.wf hv) gX7_chance_X7_partOf rfl rfl rfl (by decide +kernel) ⟨Nat.le_of_ble_eq_true rfl, Nat.le_of_ble_eq_true rfl⟩ rfl (Nat.le_of_ble_eq_true rfl) ⟨Nat.le_of_ble_eq_true rfl, Nat.le_of_ble_eq_true rfl⟩ (fun v14 => ?_)
    exact G.x_lret E dX7_chance_66 rfl (Nat.le_of_ble_eq_true rfl) (Nat.le_of_ble_eq_true rfl) rfl rfl
set_option maxHeartbeats 4000000 in
set_option maxRecDepth 100000 in
theorem iw_X7_countTrees_7 : ∀ w ∈ u_ws RX7 TX7 7, w ∈ wsX7_countTrees := fun _ h => List.mem_cons_of_mem _ (List.mem_append_left _ (List.mem_append_left _ (List.mem_append_right _ h)))
abbrev rm_X7_countTrees : Room := { frames := 15, cells := 0, slots := 0, locals := 379 }
noncomputable def f_X7_countTrees (N : Nat) (σ : Wd) : Option (Int64 × Wd) :=
  bP (f_X4_lowestNode N σ) fun v1 =>
  if v1 = (-1) then (
    some (0, σ))
  else (
    bP (f_X7_setOf N v1) fun v2 =>
    bS (f_X0_count N σ v2) fun v3 s4 =>
    some (v3, s4))
set_option maxHeartbeats 4000000 in
set_option maxRecDepth 100000 in
theorem c_X7_countTrees {l : Launch} {D : va_G} {cy : Nat → ClassId} {h : Nat → Nat} {N : Nat} {σ : Wd} {r : Int64} {σ1 : Wd} (hW : WF (wsC cy h) (adC h)) (hr : f_X7_countTrees N σ = some (r, σ1)) : Con l D cy (wsC cy h) (adC h) yX7_countTrees wsX7_countTrees rm_X7_countTrees 0 0 [.ref (h 0)] (some (.long r)) σ σ1 := by
  refine Con.of (ρ := Int64 × Wd) (lv0 := [(0, .ref (h 0))]) (σ := σ) (fun r : Int64 × Wd => some (.long r.1)) (fun r => r.2) (by decide) rfl rfl (Nat.le_of_ble_eq_true rfl) rfl hW hr (fun p e s m args below meth c E => ?_)
  unfold f_X7_countTrees
  refine G.aload_n E dX7_countTrees_0 0 rfl rfl ?_
  refine G.getR (T := TX7) (N := 7) (C := RX7) (q0 := 0) (i := 0) E dX7_countTrees_1 iw_X7_countTrees_7 (wsC_at0 _ _ _) rfl (by decide) rfl (List.mem_of_getElem? (i := 1) rfl) ?_
  refine G.callVi (n := 0) (T := TX4) (N := 8) (C := RX4) (a := h 1) (q0 := 1) (As := []) E dX7_countTrees_4 (fun _ hv => c_X4_lowestNode E.wf hv) gX7_countTrees_X4_lowestNode rfl rfl rfl (by decide +kernel) ⟨Nat.le_of_ble_eq_true rfl, Nat.le_of_ble_eq_true rfl⟩ (wsC_at1 _ _ _) rfl rfl (Nat.le_of_ble_eq_true rfl) ⟨Nat.le_of_ble_eq_true rfl, Nat.le_of_ble_eq_true rfl⟩ (fun v1 => ?_)
  refine G.istore_n (lv' := [(1, .int v1), (0, .ref (h 0))]) E dX7_countTrees_7 rfl (by decide) rfl ?_
  refine G.iload_n E dX7_countTrees_8 0 rfl rfl ?_
  refine G.iconst (v := (-1)) E dX7_countTrees_9 (by decide) ?_
  refine G.icmp_ne (tgt := 17) E dX7_countTrees_10 (by decide) ?_ ?_
  · refine G.lconst (v := 0) E dX7_countTrees_13 (by decide) ?_
    refine G.goto (tgt := 28) E dX7_countTrees_14 (by decide) ?_
    exact G.lret E dX7_countTrees_28 rfl rfl
  · refine G.aload_n E dX7_countTrees_17 1 rfl rfl ?_
    refine G.getR (T := TX7) (N := 7) (C := RX7) (q0 := 0) (i := 1) E dX7_countTrees_18 iw_X7_countTrees_7 (wsC_at0 _ _ _) rfl (by decide) rfl (List.mem_of_getElem? (i := 2) rfl) ?_
    refine G.iload_n E dX7_countTrees_21 0 rfl rfl ?_
    refine G.callSi (n := 1) (As := [.int v1]) E dX7_countTrees_22 (fun _ hv => c_X7_setOf E.wf hv) gX7_countTrees_X7_setOf rfl rfl rfl (by decide +kernel) ⟨Nat.le_of_ble_eq_true rfl, Nat.le_of_ble_eq_true rfl⟩ rfl (Nat.le_of_ble_eq_true rfl) ⟨Nat.le_of_ble_eq_true rfl, Nat.le_of_ble_eq_true rfl⟩ (fun v2 => ?_)
    refine G.callVls (n := 1) (T := TX0) (N := 9) (C := RX0) (a := h 5) (q0 := 5) (As := [.int v2]) E dX7_countTrees_25 (fun _ _ hv => c_X0_count E.wf hv) gX7_countTrees_X0_count rfl rfl rfl (by decide +kernel) ⟨Nat.le_of_ble_eq_true rfl, Nat.le_of_ble_eq_true rfl⟩ (wsC_at5 _ _ _) rfl rfl (Nat.le_of_ble_eq_true rfl) ⟨Nat.le_of_ble_eq_true rfl, Nat.le_of_ble_eq_true rfl⟩ (fun v3 s4 => ?_)
    exact G.lret E dX7_countTrees_28 rfl rfl
set_option maxHeartbeats 4000000 in
set_option maxRecDepth 100000 in
theorem iw_X7_valueOf_7 : ∀ w ∈ u_ws RX7 TX7 7, w ∈ wsX7_valueOf := fun _ h => List.mem_cons_of_mem _ (List.mem_append_right _ h)
abbrev rm_X7_valueOf : Room := { frames := 0, cells := 0, slots := 0, locals := 0 }
noncomputable def f_X7_valueOf (N : Nat) (σ : Wd) (a0 : Int32) : Option (Int64) :=
  if a0 < 0 then (
    some 0)
  else (
    if 7 ≤ a0 then (
      some 0)
    else (
      rI σ 57 7 a0 fun v1 =>
      some (Int32.toInt64 v1)))
set_option maxHeartbeats 4000000 in
set_option maxRecDepth 100000 in
theorem c_X7_valueOf {l : Launch} {D : va_G} {cy : Nat → ClassId} {h : Nat → Nat} {N : Nat} {σ : Wd} {a0 : Int32} {r : Int64} (hW : WF (wsC cy h) (adC h)) (hr : f_X7_valueOf N σ a0 = some r) : Con l D cy (wsC cy h) (adC h) yX7_valueOf wsX7_valueOf rm_X7_valueOf 0 0 [.ref (h 0), .int a0] (some (.long r)) σ σ := by
  refine Con.of (ρ := Int64) (lv0 := [(0, .ref (h 0)), (1, .int a0)]) (σ := σ) (fun r : Int64 => some (.long r)) (fun _ => σ) (by decide) rfl rfl (Nat.le_of_ble_eq_true rfl) rfl hW hr (fun p e s m args below meth c E => ?_)
  unfold f_X7_valueOf
  refine G.iload_n E dX7_valueOf_0 1 rfl rfl ?_
  refine G.if_lt (tgt := 23) E dX7_valueOf_1 (by decide) ?_ ?_
  · refine G.lconst (v := 0) E dX7_valueOf_23 (by decide) ?_
    exact G.lret E dX7_valueOf_24 rfl rfl
  · refine G.iload_n E dX7_valueOf_4 1 rfl rfl ?_
    refine G.aload_n E dX7_valueOf_5 0 rfl rfl ?_
    refine G.getR (T := TX7) (N := 7) (C := RX7) (q0 := 0) (i := 6) E dX7_valueOf_6 iw_X7_valueOf_7 (wsC_at0 _ _ _) rfl (by decide) rfl (List.mem_of_getElem? (i := 1) rfl) ?_
    refine G.alen (q0 := 57) (t0 := 0) (v := 7) E dX7_valueOf_9 (wsC_at57 _ _ _) rfl rfl ?_
    refine G.icmp_ge (tgt := 23) E dX7_valueOf_10 (by decide) ?_ ?_
    · refine G.lconst (v := 0) E dX7_valueOf_23 (by decide) ?_
      exact G.lret E dX7_valueOf_24 rfl rfl
    · refine G.aload_n E dX7_valueOf_13 0 rfl rfl ?_
      refine G.getR (T := TX7) (N := 7) (C := RX7) (q0 := 0) (i := 6) E dX7_valueOf_14 iw_X7_valueOf_7 (wsC_at0 _ _ _) rfl (by decide) rfl (List.mem_of_getElem? (i := 1) rfl) ?_
      refine G.iload_n E dX7_valueOf_17 1 rfl rfl ?_
      refine G.iald (q0 := 57) E dX7_valueOf_18 (wsC_at57 _ _ _) (fun v1 => ?_)
      refine G.i2l E dX7_valueOf_19 ?_
      refine G.goto (tgt := 24) E dX7_valueOf_20 (by decide) ?_
      exact G.lret E dX7_valueOf_24 rfl rfl
set_option maxHeartbeats 4000000 in
set_option maxRecDepth 100000 in
theorem iw_X7_upperOfCurrent_7 : ∀ w ∈ u_ws RX7 TX7 7, w ∈ wsX7_upperOfCurrent := fun _ h => List.mem_cons_of_mem _ (List.mem_append_left _ (List.mem_append_left _ (List.mem_append_right _ h)))
abbrev rm_X7_upperOfCurrent : Room := { frames := 15, cells := 0, slots := 0, locals := 380 }
noncomputable def fl_X7_upperOfCurrent_5 {ρ : Type} (N : Nat) (x1 : Int32) (K : Int64 → Wd → Option ρ) : Nat → Int64 → Int32 → Wd → Option ρ
  | 0, _, _, _ => none
  | n + 1, x2, x4, s0 =>
    if 7 ≤ x4 then (
      K x2 s0)
    else (
      jn (fun (v1 : Int64) (s2 : Wd) => ((
        fl_X7_upperOfCurrent_5 N x1 K n v1 (x4 + 1) s2) : Option (ρ))) fun j53 =>
      if x4 = x1 then (
        j53 x2 s0)
      else (
        bP (f_X4_hasEdge N s0 x4) fun v3 =>
        if v3 = 0 then (
          j53 x2 s0)
        else (
          bP (f_X7_valueOf N s0 x1) fun v4 =>
          bP (f_X7_valueOf N s0 x4) fun v5 =>
          bS (f_X7_upperOfAnswer N s0 x1 x4) fun v6 s7 =>
          lL (x2 + ((v4 - v5) * v6)) fun v8 =>
          j53 v8 s7)))
set_option maxHeartbeats 4000000 in
set_option maxRecDepth 100000 in
theorem gl_X7_upperOfCurrent_5 {ρ : Type} {Q : ρ → State → Prop} {N : Nat} {x1 : Int32} {K : Int64 → Wd → Option ρ} (E : EV p s m args meth c cX7_upperOfCurrent 5 RX7 wsX7_upperOfCurrent (some .long) D cy (wsC cy h) (adC h)) (hK : ∀ (x2' : Int64) (s' : Wd), G p l e (headSpec wsX7_upperOfCurrent rm_X7_upperOfCurrent).room s m args below meth c 5 0 0 D (wsC cy h) (adC h) Q 59 [(2, .long (x2'))] [] s' (K x2' s')) :
  ∀ (n : Nat) (x2 : Int64) (x4 : Int32) (s0 : Wd), G p l e (headSpec wsX7_upperOfCurrent rm_X7_upperOfCurrent).room s m args below meth c 5 0 0 D (wsC cy h) (adC h) Q 5 [(0, .ref (h 0)), (1, .int x1), (2, .long x2), (4, .int x4)] [] s0 (fl_X7_upperOfCurrent_5 N x1 K n x2 x4 s0) := by
  intro n
  induction n with
  | zero => intros; exact G.no
  | succ n ih =>
    intro x2 x4 s0
    rw [fl_X7_upperOfCurrent_5]
    refine G.iload E dX7_upperOfCurrent_5 3 rfl ?_
    refine G.bipush (v := 7) E dX7_upperOfCurrent_7 (by decide) ?_
    refine G.icmp_ge (tgt := 59) E dX7_upperOfCurrent_9 (by decide) ?_ ?_
    · refine G.loc [2] rfl ?_
      exact hK x2 s0
    · refine G.iload E dX7_upperOfCurrent_12 3 rfl ?_
      refine G.iload_n E dX7_upperOfCurrent_14 1 rfl rfl ?_
      refine G.jn (P := fun j => ∀ (v1 : Int64) (s2 : Wd), G p l e (headSpec wsX7_upperOfCurrent rm_X7_upperOfCurrent).room s m args below meth c 5 0 0 D (wsC cy h) (adC h) Q 53 [(0, .ref (h 0)), (1, .int x1), (2, .long v1), (4, .int x4)] [] s2 (j v1 s2)) ?_ (fun j53 hj53 => ?_)
      · intro v1 s2
        refine G.iinc (v := x4 + 1) (lv' := [(4, .int (x4 + 1)), (0, .ref (h 0)), (1, .int x1), (2, .long v1)]) E dX7_upperOfCurrent_53 3 rfl rfl (by decide) rfl ?_
        refine G.goto (tgt := 5) E dX7_upperOfCurrent_56 (by decide) ?_
        refine G.loc [1, 2, 3, 0] rfl ?_
        exact ih v1 (x4 + 1) s2
      · refine G.icmp_eq (tgt := 53) E dX7_upperOfCurrent_15 (by decide) ?_ ?_
        · refine G.loc [0, 1, 2, 3] rfl ?_
          exact hj53 x2 s0
        · refine G.aload_n E dX7_upperOfCurrent_18 0 rfl rfl ?_
          refine G.getR (T := TX7) (N := 7) (C := RX7) (q0 := 0) (i := 0) E dX7_upperOfCurrent_19 iw_X7_upperOfCurrent_7 (wsC_at0 _ _ _) rfl (by decide) rfl (List.mem_of_getElem? (i := 1) rfl) ?_
          refine G.iload E dX7_upperOfCurrent_22 3 rfl ?_
          refine G.callVi (n := 1) (T := TX4) (N := 8) (C := RX4) (a := h 1) (q0 := 1) (As := [.int x4]) E dX7_upperOfCurrent_24 (fun _ hv => c_X4_hasEdge E.wf hv) gX7_upperOfCurrent_X4_hasEdge rfl rfl rfl (by decide +kernel) ⟨Nat.le_of_ble_eq_true rfl, Nat.le_of_ble_eq_true rfl⟩ (wsC_at1 _ _ _) rfl rfl (Nat.le_of_ble_eq_true rfl) ⟨Nat.le_of_ble_eq_true rfl, Nat.le_of_ble_eq_true rfl⟩ (fun v3 => ?_)
          refine G.if_eq (tgt := 53) E dX7_upperOfCurrent_27 (by decide) ?_ ?_
          · refine G.loc [0, 1, 2, 3] rfl ?_
            exact hj53 x2 s0
          · refine G.lload_n E dX7_upperOfCurrent_30 2 rfl rfl ?_
            refine G.aload_n E dX7_upperOfCurrent_31 0 rfl rfl ?_
            refine G.iload_n E dX7_upperOfCurrent_32 1 rfl rfl ?_
            refine G.callVl (n := 1) (T := TX7) (N := 7) (C := RX7) (a := h 0) (q0 := 0) (As := [.int x1]) E dX7_upperOfCurrent_33 (fun _ hv => c_X7_valueOf E.wf hv) gX7_upperOfCurrent_X7_valueOf rfl rfl rfl (by decide +kernel) ⟨Nat.le_of_ble_eq_true rfl, Nat.le_of_ble_eq_true rfl⟩ (wsC_at0 _ _ _) rfl rfl (Nat.le_of_ble_eq_true rfl) ⟨Nat.le_of_ble_eq_true rfl, Nat.le_of_ble_eq_true rfl⟩ (fun v4 => ?_)
            refine G.aload_n E dX7_upperOfCurrent_36 0 rfl rfl ?_
            refine G.iload E dX7_upperOfCurrent_37 3 rfl ?_
            refine G.callVl (n := 1) (T := TX7) (N := 7) (C := RX7) (a := h 0) (q0 := 0) (As := [.int x4]) E dX7_upperOfCurrent_39 (fun _ hv => c_X7_valueOf E.wf hv) gX7_upperOfCurrent_X7_valueOf rfl rfl rfl (by decide +kernel) ⟨Nat.le_of_ble_eq_true rfl, Nat.le_of_ble_eq_true rfl⟩ (wsC_at0 _ _ _) rfl rfl (Nat.le_of_ble_eq_true rfl) ⟨Nat.le_of_ble_eq_true rfl, Nat.le_of_ble_eq_true rfl⟩ (fun v5 => ?_)
            refine G.lsub E dX7_upperOfCurrent_42 ?_
            refine G.aload_n E dX7_upperOfCurrent_43 0 rfl rfl ?_
            refine G.iload_n E dX7_upperOfCurrent_44 1 rfl rfl ?_
            refine G.iload E dX7_upperOfCurrent_45 3 rfl ?_
            refine G.callVls (n := 2) (T := TX7) (N := 7) (C := RX7) (a := h 0) (q0 := 0) (As := [.int x1, .int x4]) E dX7_upperOfCurrent_47 (fun _ _ hv => c_X7_upperOfAnswer E.wf hv) gX7_upperOfCurrent_X7_upperOfAnswer rfl rfl rfl (by decide +kernel) ⟨Nat.le_of_ble_eq_true rfl, Nat.le_of_ble_eq_true rfl⟩ (wsC_at0 _ _ _) rfl rfl (Nat.le_of_ble_eq_true rfl) ⟨Nat.le_of_ble_eq_true rfl, Nat.le_of_ble_eq_true rfl⟩ (fun v6 s7 => ?_)
            refine G.lmul E dX7_upperOfCurrent_50 ?_
            refine G.ladd E dX7_upperOfCurrent_51 ?_
            refine G.letL (fun v8 => ?_)
            refine G.lstore_n (lv' := [(2, .long v8), (0, .ref (h 0)), (1, .int x1), (4, .int x4)]) E dX7_upperOfCurrent_52 rfl (by decide) rfl ?_
            refine G.loc [1, 2, 0, 3] rfl ?_
            exact hj53 v8 s7
noncomputable def f_X7_upperOfCurrent (N : Nat) (σ : Wd) (a0 : Int32) : Option (Int64 × Wd) :=
  fl_X7_upperOfCurrent_5 N a0 (fun v9 s10 =>
    some (v9, s10)) N 0 0 σ
set_option maxHeartbeats 4000000 in
set_option maxRecDepth 100000 in
theorem c_X7_upperOfCurrent {l : Launch} {D : va_G} {cy : Nat → ClassId} {h : Nat → Nat} {N : Nat} {σ : Wd} {a0 : Int32} {r : Int64} {σ1 : Wd} (hW : WF (wsC cy h) (adC h)) (hr : f_X7_upperOfCurrent N σ a0 = some (r, σ1)) : Con l D cy (wsC cy h) (adC h) yX7_upperOfCurrent wsX7_upperOfCurrent rm_X7_upperOfCurrent 0 0 [.ref (h 0), .int a0] (some (.long r)) σ σ1 := by
  refine Con.of (ρ := Int64 × Wd) (lv0 := [(0, .ref (h 0)), (1, .int a0)]) (σ := σ) (fun r : Int64 × Wd => some (.long r.1)) (fun r => r.2) (by decide) rfl rfl (Nat.le_of_ble_eq_true rfl) rfl hW hr (fun p e s m args below meth c E => ?_)
  unfold f_X7_upperOfCurrent
  refine G.lconst (v := 0) E dX7_upperOfCurrent_0 (by decide) ?_
  refine G.lstore_n (lv' := [(2, .long 0), (0, .ref (h 0)), (1, .int a0)]) E dX7_upperOfCurrent_1 rfl (by decide) rfl ?_
  refine G.iconst (v := 0) E dX7_upperOfCurrent_2 (by decide) ?_
  refine G.istore (lv' := [(4, .int 0), (2, .long 0), (0, .ref (h 0)), (1, .int a0)]) E dX7_upperOfCurrent_3 (by decide) rfl ?_
  refine G.loc [2, 3, 1, 0] rfl ?_
  refine gl_X7_upperOfCurrent_5 E (fun v9 s10 => ?_) N _ _ _
  refine G.lload_n E dX7_upperOfCurrent_59 0 rfl rfl ?_
  exact G.lret E dX7_upperOfCurrent_60 rfl rfl
abbrev rm_X7_current : Room := { frames := 16, cells := 1, slots := 6, locals := 404 }
noncomputable def f_X7_current (N : Nat) (σ : Wd) (a0 : Int32) (a1 : Int32) : Option ((Nat ⊕ Int64) × Wd) :=
  bX (f_X7_needEdge N σ a0) fun v1 s2 =>
  bS (f_X7_upperOfCurrent N s2 a0) fun v3 s4 =>
  bS (f_X7_countRest N s4) fun v5 s6 =>
  bP (f_X7_partOf N v3 v5 a1) fun v7 =>
  some (.inr v7, s6)
set_option maxHeartbeats 4000000 in
set_option maxRecDepth 100000 in
theorem c_X7_current {l : Launch} {D : va_G} {cy : Nat → ClassId} {h : Nat → Nat} {N : Nat} {σ : Wd} {a0 : Int32} {a1 : Int32} {r : (Nat ⊕ Int64) × Wd} (hW : WF (wsC cy h) (adC h)) (hfl : l.stackTraces = false) (hr : f_X7_current N σ a0 a1 = some r) : ConX l D cy (wsC cy h) (adC h) yX7_current wsX7_current rm_X7_current 1 6 [.ref (h 0), .int a0, .int a1] (ooL r) σ r.2 := by
  refine ConX.of (lv0 := [(0, .ref (h 0)), (1, .int a0), (2, .int a1)]) (σ := σ) ooL (fun r => r.2) (by decide) rfl rfl (Nat.le_of_ble_eq_true rfl) rfl hW hfl hr (fun p e s m args below meth c E EX0 => ?_)
  unfold f_X7_current
  refine G.aload_n E dX7_current_0 0 rfl rfl ?_
  refine G.iload_n E dX7_current_1 1 rfl rfl ?_
  refine G.callXv (n := 1) (T := TX7) (N := 7) (C := RX7) (a := h 0) (q0 := 0) (As := [.int a0]) E EX0 dX7_current_2 (fun _ hv => c_X7_needEdge E.wf EX0.1 hv) gX7_current_X7_needEdge rfl rfl rfl (by decide +kernel) ⟨(Nat.le_of_ble_eq_true rfl), (Nat.le_of_ble_eq_true rfl)⟩ (wsC_at0 _ _ _) rfl rfl (Nat.le_of_ble_eq_true rfl) ⟨(Nat.le_of_ble_eq_true rfl), (Nat.le_of_ble_eq_true rfl)⟩ (Nat.le_of_ble_eq_true rfl) (Nat.le_of_ble_eq_true rfl) (fun _ _ => rfl) (fun v1 s2 => ?_)
  refine G.aload_n E dX7_current_5 0 rfl rfl ?_
  refine G.iload_n E dX7_current_6 1 rfl rfl ?_
  refine G.callVls (n := 1) (T := TX7) (N := 7) (C := RX7) (a := h 0) (q0 := 0) (As := [.int a0]) E dX7_current_7 (fun _ _ hv => c_X7_upperOfCurrent E.wf hv) gX7_current_X7_upperOfCurrent rfl rfl rfl (by decide +kernel) ⟨Nat.le_of_ble_eq_true rfl, Nat.le_of_ble_eq_true rfl⟩ (wsC_at0 _ _ _) rfl rfl (Nat.le_of_ble_eq_true rfl) ⟨Nat.le_of_ble_eq_true rfl, Nat.le_of_ble_eq_true rfl⟩ (fun v3 s4 => ?_)
  refine G.aload_n E dX7_current_10 0 rfl rfl ?_
  refine G.callVls (n := 0) (T := TX7) (N := 7) (C := RX7) (a := h 0) (q0 := 0) (As := []) E dX7_current_11 (fun _ _ hv => c_X7_countRest E.wf hv) gX7_current_X7_countRest rfl rfl rfl (by decide +kernel) ⟨Nat.le_of_ble_eq_true rfl, Nat.le_of_ble_eq_true rfl⟩ (wsC_at0 _ _ _) rfl rfl (Nat.le_of_ble_eq_true rfl) ⟨Nat.le_of_ble_eq_true rfl, Nat.le_of_ble_eq_true rfl⟩ (fun v5 s6 => ?_)
  refine G.iload_n E dX7_current_14 2 rfl rfl ?_
  refine G.callSl (n := 3) (As := [.long v3, .long v5, .int a1]) E dX7_current_15 (fun _ hv => c_X7_partOf E.wf hv) gX7_current_X7_partOf rfl rfl rfl (by decide +kernel) ⟨Nat.le_of_ble_eq_true rfl, Nat.le_of_ble_eq_true rfl⟩ rfl (Nat.le_of_ble_eq_true rfl) ⟨Nat.le_of_ble_eq_true rfl, Nat.le_of_ble_eq_true rfl⟩ (fun v7 => ?_)
  exact G.x_lret E dX7_current_18 rfl (Nat.le_of_ble_eq_true rfl) (Nat.le_of_ble_eq_true rfl) rfl rfl
set_option maxHeartbeats 4000000 in
set_option maxRecDepth 100000 in
theorem iw_X7_distance_7 : ∀ w ∈ u_ws RX7 TX7 7, w ∈ wsX7_distance := fun _ h => List.mem_cons_of_mem _ (List.mem_append_left _ (List.mem_append_left _ (List.mem_append_left _ (List.mem_append_right _ h))))
abbrev rm_X7_distance : Room := { frames := 16, cells := 2, slots := 12, locals := 400 }
noncomputable def f_X7_distance (N : Nat) (σ : Wd) (a0 : Int32) (a1 : Int32) (a2 : Int32) : Option ((Nat ⊕ Int64) × Wd) :=
  bX (f_X7_needNode N σ a0) fun v1 s2 =>
  bX (f_X7_needNode N s2 a1) fun v3 s4 =>
  if a0 = a1 then (
    bP (f_X7_partOf N 0 1 a2) fun v12 =>
    some (.inr v12, s4))
  else (
    bP (f_X7_setOf N a0) fun v5 =>
    bP (f_X7_setOf N a1) fun v6 =>
    bS (f_X0_count N s4 (v5 ||| v6)) fun v7 s8 =>
    bS (f_X7_countTrees N s8) fun v9 s10 =>
    bP (f_X7_partOf N v7 v9 a2) fun v11 =>
    some (.inr v11, s10))
set_option maxHeartbeats 4000000 in
set_option maxRecDepth 100000 in
theorem c_X7_distance {l : Launch} {D : va_G} {cy : Nat → ClassId} {h : Nat → Nat} {N : Nat} {σ : Wd} {a0 : Int32} {a1 : Int32} {a2 : Int32} {r : (Nat ⊕ Int64) × Wd} (hW : WF (wsC cy h) (adC h)) (hfl : l.stackTraces = false) (hr : f_X7_distance N σ a0 a1 a2 = some r) : ConX l D cy (wsC cy h) (adC h) yX7_distance wsX7_distance rm_X7_distance 2 12 [.ref (h 0), .int a0, .int a1, .int a2] (ooL r) σ r.2 := by
  refine ConX.of (lv0 := [(0, .ref (h 0)), (1, .int a0), (2, .int a1), (3, .int a2)]) (σ := σ) ooL (fun r => r.2) (by decide) rfl rfl (Nat.le_of_ble_eq_true rfl) rfl hW hfl hr (fun p e s m args below meth c E EX0 => ?_)
  unfold f_X7_distance
  refine G.aload_n E dX7_distance_0 0 rfl rfl ?_
  refine G.iload_n E dX7_distance_1 1 rfl rfl ?_
  refine G.callXv (n := 1) (T := TX7) (N := 7) (C := RX7) (a := h 0) (q0 := 0) (As := [.int a0]) E EX0 dX7_distance_2 (fun _ hv => c_X7_needNode E.wf EX0.1 hv) gX7_distance_X7_needNode rfl rfl rfl (by decide +kernel) ⟨(Nat.le_of_ble_eq_true rfl), (Nat.le_of_ble_eq_true rfl)⟩ (wsC_at0 _ _ _) rfl rfl (Nat.le_of_ble_eq_true rfl) ⟨(Nat.le_of_ble_eq_true rfl), (Nat.le_of_ble_eq_true rfl)⟩ (Nat.le_of_ble_eq_true rfl) (Nat.le_of_ble_eq_true rfl) (fun _ _ => rfl) (fun v1 s2 => ?_)
  refine G.aload_n E dX7_distance_5 0 rfl rfl ?_
  refine G.iload_n E dX7_distance_6 2 rfl rfl ?_
  refine G.callXv (n := 1) (T := TX7) (N := 7) (C := RX7) (a := h 0) (q0 := 0) (As := [.int a1]) E EX0 dX7_distance_7 (fun _ hv => c_X7_needNode E.wf EX0.1 hv) gX7_distance_X7_needNode rfl rfl rfl (by decide +kernel) ⟨(Nat.le_of_ble_eq_true rfl), (Nat.le_of_ble_eq_true rfl)⟩ (wsC_at0 _ _ _) rfl rfl (Nat.le_of_ble_eq_true rfl) ⟨(Nat.le_of_ble_eq_true rfl), (Nat.le_of_ble_eq_true rfl)⟩ (Nat.le_of_ble_eq_true rfl) (Nat.le_of_ble_eq_true rfl) (fun _ _ => rfl) (fun v3 s4 => ?_)
  refine G.iload_n E dX7_distance_10 1 rfl rfl ?_
  refine G.iload_n E dX7_distance_11 2 rfl rfl ?_
  refine G.icmp_ne (tgt := 22) E dX7_distance_12 (by decide) ?_ ?_
  · refine G.lconst (v := 0) E dX7_distance_15 (by decide) ?_
    refine G.lconst (v := 1) E dX7_distance_16 (by decide) ?_
    refine G.iload_n E dX7_distance_17 3 rfl rfl ?_
    refine G.callSl (n := 3) (As := [.long 0, .long 1, .int a2]) E dX7_distance_18 (fun _ hv => c_X7_partOf E.wf hv) gX7_distance_X7_partOf rfl rfl rfl (by decide +kernel) ⟨Nat.le_of_ble_eq_true rfl, Nat.le_of_ble_eq_true rfl⟩ rfl (Nat.le_of_ble_eq_true rfl) ⟨Nat.le_of_ble_eq_true rfl, Nat.le_of_ble_eq_true rfl⟩ (fun v12 => ?_)
    exact G.x_lret E dX7_distance_21 rfl (Nat.le_of_ble_eq_true rfl) (Nat.le_of_ble_eq_true rfl) rfl rfl
  · refine G.aload_n E dX7_distance_22 0 rfl rfl ?_
    refine G.getR (T := TX7) (N := 7) (C := RX7) (q0 := 0) (i := 1) E dX7_distance_23 iw_X7_distance_7 (wsC_at0 _ _ _) rfl (by decide) rfl (List.mem_of_getElem? (i := 1) rfl) ?_
    refine G.iload_n E dX7_distance_26 1 rfl rfl ?_
    refine G.callSi (n := 1) (As := [.int a0]) E dX7_distance_27 (fun _ hv => c_X7_setOf E.wf hv) gX7_distance_X7_setOf rfl rfl rfl (by decide +kernel) ⟨Nat.le_of_ble_eq_true rfl, Nat.le_of_ble_eq_true rfl⟩ rfl (Nat.le_of_ble_eq_true rfl) ⟨Nat.le_of_ble_eq_true rfl, Nat.le_of_ble_eq_true rfl⟩ (fun v5 => ?_)
    refine G.iload_n E dX7_distance_30 2 rfl rfl ?_
    refine G.callSi (n := 1) (As := [.int a1]) E dX7_distance_31 (fun _ hv => c_X7_setOf E.wf hv) gX7_distance_X7_setOf rfl rfl rfl (by decide +kernel) ⟨Nat.le_of_ble_eq_true rfl, Nat.le_of_ble_eq_true rfl⟩ rfl (Nat.le_of_ble_eq_true rfl) ⟨Nat.le_of_ble_eq_true rfl, Nat.le_of_ble_eq_true rfl⟩ (fun v6 => ?_)
    refine G.ior E dX7_distance_34 ?_
    refine G.callVls (n := 1) (T := TX0) (N := 9) (C := RX0) (a := h 5) (q0 := 5) (As := [.int (v5 ||| v6)]) E dX7_distance_35 (fun _ _ hv => c_X0_count E.wf hv) gX7_distance_X0_count rfl rfl rfl (by decide +kernel) ⟨Nat.le_of_ble_eq_true rfl, Nat.le_of_ble_eq_true rfl⟩ (wsC_at5 _ _ _) rfl rfl (Nat.le_of_ble_eq_true rfl) ⟨Nat.le_of_ble_eq_true rfl, Nat.le_of_ble_eq_true rfl⟩ (fun v7 s8 => ?_)
    refine G.aload_n E dX7_distance_38 0 rfl rfl ?_
    refine G.callVls (n := 0) (T := TX7) (N := 7) (C := RX7) (a := h 0) (q0 := 0) (As := []) E dX7_distance_39 (fun _ _ hv => c_X7_countTrees E.wf hv) gX7_distance_X7_countTrees rfl rfl rfl (by decide +kernel) ⟨Nat.le_of_ble_eq_true rfl, Nat.le_of_ble_eq_true rfl⟩ (wsC_at0 _ _ _) rfl rfl (Nat.le_of_ble_eq_true rfl) ⟨Nat.le_of_ble_eq_true rfl, Nat.le_of_ble_eq_true rfl⟩ (fun v9 s10 => ?_)
    refine G.iload_n E dX7_distance_42 3 rfl rfl ?_
    refine G.callSl (n := 3) (As := [.long v7, .long v9, .int a2]) E dX7_distance_43 (fun _ hv => c_X7_partOf E.wf hv) gX7_distance_X7_partOf rfl rfl rfl (by decide +kernel) ⟨Nat.le_of_ble_eq_true rfl, Nat.le_of_ble_eq_true rfl⟩ rfl (Nat.le_of_ble_eq_true rfl) ⟨Nat.le_of_ble_eq_true rfl, Nat.le_of_ble_eq_true rfl⟩ (fun v11 => ?_)
    exact G.x_lret E dX7_distance_46 rfl (Nat.le_of_ble_eq_true rfl) (Nat.le_of_ble_eq_true rfl) rfl rfl
set_option maxHeartbeats 4000000 in
set_option maxRecDepth 100000 in
theorem iw_X7_keeps_7 : ∀ w ∈ u_ws RX7 TX7 7, w ∈ wsX7_keeps := fun _ h => List.mem_cons_of_mem _ (List.mem_append_left _ (List.mem_append_left _ (List.mem_append_left _ (List.mem_append_right _ h))))
abbrev rm_X7_keeps : Room := { frames := 16, cells := 0, slots := 0, locals := 399 }
noncomputable def fl_X7_keeps_18 (N : Nat) (x1 : Int64) (x3 : Int32) (K : Wd → Option (Int32 × Wd)) : Nat → Int32 → Wd → Option (Int32 × Wd)
  | 0, _, _ => none
  | n + 1, x4, s0 =>
    if 7 ≤ x4 then (
      K s0)
    else (
      bP (f_X1_hasPair N s0 x3 x4) fun v4 =>
      jn (fun (s5 : Wd) => ((
        fl_X7_keeps_18 N x1 x3 K n (x4 + 1) s5) : Option (Int32 × Wd))) fun j76 =>
      if v4 = 0 then (
        j76 s0)
      else (
        bS (f_X7_upperOfAnswer N s0 x3 x4) fun v6 s7 =>
        bP (f_X7_partOf N v6 x1 0) fun v8 =>
        bP (f_X7_partOf N v6 x1 1) fun v9 =>
        bP (f_X1_isKept N s7 x3 x4 v8 v9) fun v10 =>
        if v10 = 0 then (
          some (0, s7))
        else (
          j76 s7)))
set_option maxHeartbeats 4000000 in
set_option maxRecDepth 100000 in
theorem gl_X7_keeps_18 {N : Nat} {x1 : Int64} {x3 : Int32} {K : Wd → Option (Int32 × Wd)} (E : EV p s m args meth c cX7_keeps 7 RX7 wsX7_keeps (some .boolean) D cy (wsC cy h) (adC h)) (hK : ∀ (s' : Wd), G p l e (headSpec wsX7_keeps rm_X7_keeps).room s m args below meth c 7 0 0 D (wsC cy h) (adC h) (QM D (wsC cy h) (adC h) below args s 0 0 (fun r : Int32 × Wd => some (.int r.1)) (fun r => r.2)) 82 [(0, .ref (h 0)), (1, .long x1), (3, .int x3)] [] s' (K s')) :
  ∀ (n : Nat) (x4 : Int32) (s0 : Wd), G p l e (headSpec wsX7_keeps rm_X7_keeps).room s m args below meth c 7 0 0 D (wsC cy h) (adC h) (QM D (wsC cy h) (adC h) below args s 0 0 (fun r : Int32 × Wd => some (.int r.1)) (fun r => r.2)) 18 [(0, .ref (h 0)), (1, .long x1), (3, .int x3), (4, .int x4)] [] s0 (fl_X7_keeps_18 N x1 x3 K n x4 s0) := by
  intro n
  induction n with
  | zero => intros; exact G.no
  | succ n ih =>
    intro x4 s0
    rw [fl_X7_keeps_18]
    refine G.iload E dX7_keeps_18 3 rfl ?_
    refine G.bipush (v := 7) E dX7_keeps_20 (by decide) ?_
    refine G.icmp_ge (tgt := 82) E dX7_keeps_22 (by decide) ?_ ?_
    · refine G.loc [0, 1, 2] rfl ?_
      exact hK s0
    · refine G.aload_n E dX7_keeps_25 0 rfl rfl ?_
      refine G.getR (T := TX7) (N := 7) (C := RX7) (q0 := 0) (i := 5) E dX7_keeps_26 iw_X7_keeps_7 (wsC_at0 _ _ _) rfl (by decide) rfl (List.mem_of_getElem? (i := 1) rfl) ?_
      refine G.iload_n E dX7_keeps_29 2 rfl rfl ?_
      refine G.iload E dX7_keeps_30 3 rfl ?_
      refine G.callVi (n := 2) (T := TX1) (N := 3) (C := RX1) (a := h 40) (q0 := 40) (As := [.int x3, .int x4]) E dX7_keeps_32 (fun _ hv => c_X1_hasPair E.wf hv) gX7_keeps_X1_hasPair rfl rfl rfl (by decide +kernel) ⟨Nat.le_of_ble_eq_true rfl, Nat.le_of_ble_eq_true rfl⟩ (wsC_at40 _ _ _) rfl rfl (Nat.le_of_ble_eq_true rfl) ⟨Nat.le_of_ble_eq_true rfl, Nat.le_of_ble_eq_true rfl⟩ (fun v4 => ?_)
      refine G.jn (P := fun j => ∀ (s5 : Wd), G p l e (headSpec wsX7_keeps rm_X7_keeps).room s m args below meth c 7 0 0 D (wsC cy h) (adC h) (QM D (wsC cy h) (adC h) below args s 0 0 (fun r : Int32 × Wd => some (.int r.1)) (fun r => r.2)) 76 [(0, .ref (h 0)), (1, .long x1), (3, .int x3), (4, .int x4)] [] s5 (j s5)) ?_ (fun j76 hj76 => ?_)
      · intro s5
        refine G.iinc (v := x4 + 1) (lv' := [(4, .int (x4 + 1)), (0, .ref (h 0)), (1, .long x1), (3, .int x3)]) E dX7_keeps_76 3 rfl rfl (by decide) rfl ?_
        refine G.goto (tgt := 18) E dX7_keeps_79 (by decide) ?_
        refine G.loc [1, 2, 3, 0] rfl ?_
        exact ih (x4 + 1) s5
      · refine G.if_eq (tgt := 76) E dX7_keeps_35 (by decide) ?_ ?_
        · refine G.loc [0, 1, 2, 3] rfl ?_
          exact hj76 s0
        · refine G.aload_n E dX7_keeps_38 0 rfl rfl ?_
          refine G.iload_n E dX7_keeps_39 2 rfl rfl ?_
          refine G.iload E dX7_keeps_40 3 rfl ?_
          refine G.callVls (n := 2) (T := TX7) (N := 7) (C := RX7) (a := h 0) (q0 := 0) (As := [.int x3, .int x4]) E dX7_keeps_42 (fun _ _ hv => c_X7_upperOfAnswer E.wf hv) gX7_keeps_X7_upperOfAnswer rfl rfl rfl (by decide +kernel) ⟨Nat.le_of_ble_eq_true rfl, Nat.le_of_ble_eq_true rfl⟩ (wsC_at0 _ _ _) rfl rfl (Nat.le_of_ble_eq_true rfl) ⟨Nat.le_of_ble_eq_true rfl, Nat.le_of_ble_eq_true rfl⟩ (fun v6 s7 => ?_)
          refine G.lstore (lv' := [(5, .long v6), (0, .ref (h 0)), (1, .long x1), (3, .int x3), (4, .int x4)]) E dX7_keeps_45 (by decide) rfl ?_
          refine G.aload_n E dX7_keeps_47 1 rfl rfl ?_
          refine G.getR (T := TX7) (N := 7) (C := RX7) (q0 := 0) (i := 5) E dX7_keeps_48 iw_X7_keeps_7 (wsC_at0 _ _ _) rfl (by decide) rfl (List.mem_of_getElem? (i := 1) rfl) ?_
          refine G.iload_n E dX7_keeps_51 3 rfl rfl ?_
          refine G.iload E dX7_keeps_52 4 rfl ?_
          refine G.lload E dX7_keeps_54 0 rfl ?_
          refine G.lload_n E dX7_keeps_56 2 rfl rfl ?_
          refine G.iconst (v := 0) E dX7_keeps_57 (by decide) ?_
          refine G.callSl (n := 3) (As := [.long v6, .long x1, .int 0]) E dX7_keeps_58 (fun _ hv => c_X7_partOf E.wf hv) gX7_keeps_X7_partOf rfl rfl rfl (by decide +kernel) ⟨Nat.le_of_ble_eq_true rfl, Nat.le_of_ble_eq_true rfl⟩ rfl (Nat.le_of_ble_eq_true rfl) ⟨Nat.le_of_ble_eq_true rfl, Nat.le_of_ble_eq_true rfl⟩ (fun v8 => ?_)
          refine G.lload E dX7_keeps_61 0 rfl ?_
          refine G.lload_n E dX7_keeps_63 2 rfl rfl ?_
          refine G.iconst (v := 1) E dX7_keeps_64 (by decide) ?_
          refine G.callSl (n := 3) (As := [.long v6, .long x1, .int 1]) E dX7_keeps_65 (fun _ hv => c_X7_partOf E.wf hv) gX7_keeps_X7_partOf rfl rfl rfl (by decide +kernel) ⟨Nat.le_of_ble_eq_true rfl, Nat.le_of_ble_eq_true rfl⟩ rfl (Nat.le_of_ble_eq_true rfl) ⟨Nat.le_of_ble_eq_true rfl, Nat.le_of_ble_eq_true rfl⟩ (fun v9 => ?_)
          refine G.callVi (n := 4) (T := TX1) (N := 3) (C := RX1) (a := h 40) (q0 := 40) (As := [.int x3, .int x4, .long v8, .long v9]) E dX7_keeps_68 (fun _ hv => c_X1_isKept E.wf hv) gX7_keeps_X1_isKept rfl rfl rfl (by decide +kernel) ⟨Nat.le_of_ble_eq_true rfl, Nat.le_of_ble_eq_true rfl⟩ (wsC_at40 _ _ _) rfl rfl (Nat.le_of_ble_eq_true rfl) ⟨Nat.le_of_ble_eq_true rfl, Nat.le_of_ble_eq_true rfl⟩ (fun v10 => ?_)
          refine G.if_ne (tgt := 76) E dX7_keeps_71 (by decide) ?_ ?_
          · refine G.iconst (v := 0) E dX7_keeps_74 (by decide) ?_
            exact G.zretc E dX7_keeps_75 rfl rfl rfl
          · refine G.loc [1, 2, 3, 4] rfl ?_
            exact hj76 s7
noncomputable def fl_X7_keeps_7 (N : Nat) (x1 : Int64) (K : Wd → Option (Int32 × Wd)) : Nat → Int32 → Wd → Option (Int32 × Wd)
  | 0, _, _ => none
  | n + 1, x3, s0 =>
    if 7 ≤ x3 then (
      K s0)
    else (
      lI (x3 + 1) fun v3 =>
      fl_X7_keeps_18 N x1 x3 (fun s11 =>
        fl_X7_keeps_7 N x1 K n (x3 + 1) s11) N v3 s0)
set_option maxHeartbeats 4000000 in
set_option maxRecDepth 100000 in
theorem gl_X7_keeps_7 {N : Nat} {x1 : Int64} {K : Wd → Option (Int32 × Wd)} (E : EV p s m args meth c cX7_keeps 7 RX7 wsX7_keeps (some .boolean) D cy (wsC cy h) (adC h)) (hK : ∀ (s' : Wd), G p l e (headSpec wsX7_keeps rm_X7_keeps).room s m args below meth c 7 0 0 D (wsC cy h) (adC h) (QM D (wsC cy h) (adC h) below args s 0 0 (fun r : Int32 × Wd => some (.int r.1)) (fun r => r.2)) 88 [] [] s' (K s')) :
  ∀ (n : Nat) (x3 : Int32) (s0 : Wd), G p l e (headSpec wsX7_keeps rm_X7_keeps).room s m args below meth c 7 0 0 D (wsC cy h) (adC h) (QM D (wsC cy h) (adC h) below args s 0 0 (fun r : Int32 × Wd => some (.int r.1)) (fun r => r.2)) 7 [(0, .ref (h 0)), (1, .long x1), (3, .int x3)] [] s0 (fl_X7_keeps_7 N x1 K n x3 s0) := by
  intro n
  induction n with
  | zero => intros; exact G.no
  | succ n ih =>
    intro x3 s0
    rw [fl_X7_keeps_7]
    refine G.iload_n E dX7_keeps_7 2 rfl rfl ?_
    refine G.bipush (v := 7) E dX7_keeps_8 (by decide) ?_
    refine G.icmp_ge (tgt := 88) E dX7_keeps_10 (by decide) ?_ ?_
    · refine G.loc [] rfl ?_
      exact hK s0
    · refine G.iload_n E dX7_keeps_13 2 rfl rfl ?_
      refine G.iconst (v := 1) E dX7_keeps_14 (by decide) ?_
      refine G.iadd E dX7_keeps_15 ?_
      refine G.letI (fun v3 => ?_)
      refine G.istore (lv' := [(4, .int v3), (0, .ref (h 0)), (1, .long x1), (3, .int x3)]) E dX7_keeps_16 (by decide) rfl ?_
      refine G.loc [1, 2, 3, 0] rfl ?_
      refine gl_X7_keeps_18 E (fun s11 => ?_) N _ _
      refine G.iinc (v := x3 + 1) (lv' := [(3, .int (x3 + 1)), (0, .ref (h 0)), (1, .long x1)]) E dX7_keeps_82 2 rfl rfl (by decide) rfl ?_
      refine G.goto (tgt := 7) E dX7_keeps_85 (by decide) ?_
      refine G.loc [1, 2, 0] rfl ?_
      exact ih (x3 + 1) s11
noncomputable def f_X7_keeps (N : Nat) (σ : Wd) : Option (Int32 × Wd) :=
  bS (f_X7_countRest N σ) fun v1 s2 =>
  fl_X7_keeps_7 N v1 (fun s12 =>
    some (1, s12)) N 0 s2
set_option maxHeartbeats 4000000 in
set_option maxRecDepth 100000 in
theorem c_X7_keeps {l : Launch} {D : va_G} {cy : Nat → ClassId} {h : Nat → Nat} {N : Nat} {σ : Wd} {r : Int32} {σ1 : Wd} (hW : WF (wsC cy h) (adC h)) (hr : f_X7_keeps N σ = some (r, σ1)) : Con l D cy (wsC cy h) (adC h) yX7_keeps wsX7_keeps rm_X7_keeps 0 0 [.ref (h 0)] (some (.int r)) σ σ1 := by
  refine Con.of (ρ := Int32 × Wd) (lv0 := [(0, .ref (h 0))]) (σ := σ) (fun r : Int32 × Wd => some (.int r.1)) (fun r => r.2) (by decide) rfl rfl (Nat.le_of_ble_eq_true rfl) rfl hW hr (fun p e s m args below meth c E => ?_)
  unfold f_X7_keeps
  refine G.aload_n E dX7_keeps_0 0 rfl rfl ?_
  refine G.callVls (n := 0) (T := TX7) (N := 7) (C := RX7) (a := h 0) (q0 := 0) (As := []) E dX7_keeps_1 (fun _ _ hv => c_X7_countRest E.wf hv) gX7_keeps_X7_countRest rfl rfl rfl (by decide +kernel) ⟨Nat.le_of_ble_eq_true rfl, Nat.le_of_ble_eq_true rfl⟩ (wsC_at0 _ _ _) rfl rfl (Nat.le_of_ble_eq_true rfl) ⟨Nat.le_of_ble_eq_true rfl, Nat.le_of_ble_eq_true rfl⟩ (fun v1 s2 => ?_)
  refine G.lstore_n (lv' := [(1, .long v1), (0, .ref (h 0))]) E dX7_keeps_4 rfl (by decide) rfl ?_
  refine G.iconst (v := 0) E dX7_keeps_5 (by decide) ?_
  refine G.istore_n (lv' := [(3, .int 0), (1, .long v1), (0, .ref (h 0))]) E dX7_keeps_6 rfl (by decide) rfl ?_
  refine G.loc [2, 1, 0] rfl ?_
  refine gl_X7_keeps_7 E (fun s12 => ?_) N _ _
  refine G.iconst (v := 1) E dX7_keeps_88 (by decide) ?_
  exact G.zretc E dX7_keeps_89 rfl rfl rfl
set_option maxHeartbeats 4000000 in
set_option maxRecDepth 100000 in
theorem iw_X7_mark_4 : ∀ w ∈ u_ws RX4 TX4 8, w ∈ wsX7_mark := fun _ h => List.mem_cons_of_mem _ (List.mem_append_left _ (List.mem_append_left _ (List.mem_append_right _ h)))
set_option maxHeartbeats 4000000 in
set_option maxRecDepth 100000 in
theorem iw_X7_mark_7 : ∀ w ∈ u_ws RX7 TX7 7, w ∈ wsX7_mark := fun _ h => List.mem_cons_of_mem _ (List.mem_append_left _ (List.mem_append_left _ (List.mem_append_left _ (List.mem_append_right _ h))))
abbrev rm_X7_mark : Room := { frames := 16, cells := 0, slots := 0, locals := 399 }
noncomputable def fl_X7_mark_32 {ρ : Type} (N : Nat) (x1 : Int64) (x3 : Int32) (K : Wd → Option ρ) : Nat → Int32 → Wd → Option ρ
  | 0, _, _ => none
  | n + 1, x4, s0 =>
    if 7 ≤ x4 then (
      K s0)
    else (
      bP (f_X1_hasPair N s0 x3 x4) fun v6 =>
      jn (fun (s7 : Wd) => ((
        fl_X7_mark_32 N x1 x3 K n (x4 + 1) s7) : Option (ρ))) fun j85 =>
      if v6 = 0 then (
        j85 s0)
      else (
        bS (f_X7_upperOfAnswer N s0 x3 x4) fun v8 s9 =>
        bP (f_X7_partOf N v8 x1 0) fun v10 =>
        bP (f_X7_partOf N v8 x1 1) fun v11 =>
        bP (f_X1_keep N s9 x3 x4 v10 v11) fun s12 =>
        j85 s12))
set_option maxHeartbeats 4000000 in
set_option maxRecDepth 100000 in
theorem gl_X7_mark_32 {ρ : Type} {Q : ρ → State → Prop} {N : Nat} {x1 : Int64} {x3 : Int32} {K : Wd → Option ρ} (E : EV p s m args meth c cX7_mark 7 RX7 wsX7_mark none D cy (wsC cy h) (adC h)) (hK : ∀ (s' : Wd), G p l e (headSpec wsX7_mark rm_X7_mark).room s m args below meth c 7 0 0 D (wsC cy h) (adC h) Q 91 [(0, .ref (h 0)), (1, .long x1), (3, .int x3)] [] s' (K s')) :
  ∀ (n : Nat) (x4 : Int32) (s0 : Wd), G p l e (headSpec wsX7_mark rm_X7_mark).room s m args below meth c 7 0 0 D (wsC cy h) (adC h) Q 32 [(0, .ref (h 0)), (1, .long x1), (3, .int x3), (4, .int x4)] [] s0 (fl_X7_mark_32 N x1 x3 K n x4 s0) := by
  intro n
  induction n with
  | zero => intros; exact G.no
  | succ n ih =>
    intro x4 s0
    rw [fl_X7_mark_32]
    refine G.iload E dX7_mark_32 3 rfl ?_
    refine G.bipush (v := 7) E dX7_mark_34 (by decide) ?_
    refine G.icmp_ge (tgt := 91) E dX7_mark_36 (by decide) ?_ ?_
    · refine G.loc [0, 1, 2] rfl ?_
      exact hK s0
    · refine G.aload_n E dX7_mark_39 0 rfl rfl ?_
      refine G.getR (T := TX7) (N := 7) (C := RX7) (q0 := 0) (i := 5) E dX7_mark_40 iw_X7_mark_7 (wsC_at0 _ _ _) rfl (by decide) rfl (List.mem_of_getElem? (i := 1) rfl) ?_
      refine G.iload_n E dX7_mark_43 2 rfl rfl ?_
      refine G.iload E dX7_mark_44 3 rfl ?_
      refine G.callVi (n := 2) (T := TX1) (N := 3) (C := RX1) (a := h 40) (q0 := 40) (As := [.int x3, .int x4]) E dX7_mark_46 (fun _ hv => c_X1_hasPair E.wf hv) gX7_mark_X1_hasPair rfl rfl rfl (by decide +kernel) ⟨Nat.le_of_ble_eq_true rfl, Nat.le_of_ble_eq_true rfl⟩ (wsC_at40 _ _ _) rfl rfl (Nat.le_of_ble_eq_true rfl) ⟨Nat.le_of_ble_eq_true rfl, Nat.le_of_ble_eq_true rfl⟩ (fun v6 => ?_)
      refine G.jn (P := fun j => ∀ (s7 : Wd), G p l e (headSpec wsX7_mark rm_X7_mark).room s m args below meth c 7 0 0 D (wsC cy h) (adC h) Q 85 [(0, .ref (h 0)), (1, .long x1), (3, .int x3), (4, .int x4)] [] s7 (j s7)) ?_ (fun j85 hj85 => ?_)
      · intro s7
        refine G.iinc (v := x4 + 1) (lv' := [(4, .int (x4 + 1)), (0, .ref (h 0)), (1, .long x1), (3, .int x3)]) E dX7_mark_85 3 rfl rfl (by decide) rfl ?_
        refine G.goto (tgt := 32) E dX7_mark_88 (by decide) ?_
        refine G.loc [1, 2, 3, 0] rfl ?_
        exact ih (x4 + 1) s7
      · refine G.if_eq (tgt := 85) E dX7_mark_49 (by decide) ?_ ?_
        · refine G.loc [0, 1, 2, 3] rfl ?_
          exact hj85 s0
        · refine G.aload_n E dX7_mark_52 0 rfl rfl ?_
          refine G.iload_n E dX7_mark_53 2 rfl rfl ?_
          refine G.iload E dX7_mark_54 3 rfl ?_
          refine G.callVls (n := 2) (T := TX7) (N := 7) (C := RX7) (a := h 0) (q0 := 0) (As := [.int x3, .int x4]) E dX7_mark_56 (fun _ _ hv => c_X7_upperOfAnswer E.wf hv) gX7_mark_X7_upperOfAnswer rfl rfl rfl (by decide +kernel) ⟨Nat.le_of_ble_eq_true rfl, Nat.le_of_ble_eq_true rfl⟩ (wsC_at0 _ _ _) rfl rfl (Nat.le_of_ble_eq_true rfl) ⟨Nat.le_of_ble_eq_true rfl, Nat.le_of_ble_eq_true rfl⟩ (fun v8 s9 => ?_)
          refine G.lstore (lv' := [(5, .long v8), (0, .ref (h 0)), (1, .long x1), (3, .int x3), (4, .int x4)]) E dX7_mark_59 (by decide) rfl ?_
          refine G.aload_n E dX7_mark_61 1 rfl rfl ?_
          refine G.getR (T := TX7) (N := 7) (C := RX7) (q0 := 0) (i := 5) E dX7_mark_62 iw_X7_mark_7 (wsC_at0 _ _ _) rfl (by decide) rfl (List.mem_of_getElem? (i := 1) rfl) ?_
          refine G.iload_n E dX7_mark_65 3 rfl rfl ?_
          refine G.iload E dX7_mark_66 4 rfl ?_
          refine G.lload E dX7_mark_68 0 rfl ?_
          refine G.lload_n E dX7_mark_70 2 rfl rfl ?_
          refine G.iconst (v := 0) E dX7_mark_71 (by decide) ?_
          refine G.callSl (n := 3) (As := [.long v8, .long x1, .int 0]) E dX7_mark_72 (fun _ hv => c_X7_partOf E.wf hv) gX7_mark_X7_partOf rfl rfl rfl (by decide +kernel) ⟨Nat.le_of_ble_eq_true rfl, Nat.le_of_ble_eq_true rfl⟩ rfl (Nat.le_of_ble_eq_true rfl) ⟨Nat.le_of_ble_eq_true rfl, Nat.le_of_ble_eq_true rfl⟩ (fun v10 => ?_)
          refine G.lload E dX7_mark_75 0 rfl ?_
          refine G.lload_n E dX7_mark_77 2 rfl rfl ?_
          refine G.iconst (v := 1) E dX7_mark_78 (by decide) ?_
          refine G.callSl (n := 3) (As := [.long v8, .long x1, .int 1]) E dX7_mark_79 (fun _ hv => c_X7_partOf E.wf hv) gX7_mark_X7_partOf rfl rfl rfl (by decide +kernel) ⟨Nat.le_of_ble_eq_true rfl, Nat.le_of_ble_eq_true rfl⟩ rfl (Nat.le_of_ble_eq_true rfl) ⟨Nat.le_of_ble_eq_true rfl, Nat.le_of_ble_eq_true rfl⟩ (fun v11 => ?_)
          refine G.callVv (n := 4) (T := TX1) (N := 3) (C := RX1) (a := h 40) (q0 := 40) (As := [.int x3, .int x4, .long v10, .long v11]) E dX7_mark_82 (fun _ hv => c_X1_keep E.wf hv) gX7_mark_X1_keep rfl rfl rfl (by decide +kernel) ⟨Nat.le_of_ble_eq_true rfl, Nat.le_of_ble_eq_true rfl⟩ (wsC_at40 _ _ _) rfl rfl (Nat.le_of_ble_eq_true rfl) ⟨Nat.le_of_ble_eq_true rfl, Nat.le_of_ble_eq_true rfl⟩ (fun s12 => ?_)
          refine G.loc [1, 2, 3, 4] rfl ?_
          exact hj85 s12
noncomputable def fl_X7_mark_21 {ρ : Type} (N : Nat) (x1 : Int64) (K : Wd → Option ρ) : Nat → Int32 → Wd → Option ρ
  | 0, _, _ => none
  | n + 1, x3, s0 =>
    if 7 ≤ x3 then (
      K s0)
    else (
      lI (x3 + 1) fun v5 =>
      fl_X7_mark_32 N x1 x3 (fun s13 =>
        fl_X7_mark_21 N x1 K n (x3 + 1) s13) N v5 s0)
set_option maxHeartbeats 4000000 in
set_option maxRecDepth 100000 in
theorem gl_X7_mark_21 {ρ : Type} {Q : ρ → State → Prop} {N : Nat} {x1 : Int64} {K : Wd → Option ρ} (E : EV p s m args meth c cX7_mark 7 RX7 wsX7_mark none D cy (wsC cy h) (adC h)) (hK : ∀ (s' : Wd), G p l e (headSpec wsX7_mark rm_X7_mark).room s m args below meth c 7 0 0 D (wsC cy h) (adC h) Q 97 [] [] s' (K s')) :
  ∀ (n : Nat) (x3 : Int32) (s0 : Wd), G p l e (headSpec wsX7_mark rm_X7_mark).room s m args below meth c 7 0 0 D (wsC cy h) (adC h) Q 21 [(0, .ref (h 0)), (1, .long x1), (3, .int x3)] [] s0 (fl_X7_mark_21 N x1 K n x3 s0) := by
  intro n
  induction n with
  | zero => intros; exact G.no
  | succ n ih =>
    intro x3 s0
    rw [fl_X7_mark_21]
    refine G.iload_n E dX7_mark_21 2 rfl rfl ?_
    refine G.bipush (v := 7) E dX7_mark_22 (by decide) ?_
    refine G.icmp_ge (tgt := 97) E dX7_mark_24 (by decide) ?_ ?_
    · refine G.loc [] rfl ?_
      exact hK s0
    · refine G.iload_n E dX7_mark_27 2 rfl rfl ?_
      refine G.iconst (v := 1) E dX7_mark_28 (by decide) ?_
      refine G.iadd E dX7_mark_29 ?_
      refine G.letI (fun v5 => ?_)
      refine G.istore (lv' := [(4, .int v5), (0, .ref (h 0)), (1, .long x1), (3, .int x3)]) E dX7_mark_30 (by decide) rfl ?_
      refine G.loc [1, 2, 3, 0] rfl ?_
      refine gl_X7_mark_32 E (fun s13 => ?_) N _ _
      refine G.iinc (v := x3 + 1) (lv' := [(3, .int (x3 + 1)), (0, .ref (h 0)), (1, .long x1)]) E dX7_mark_91 2 rfl rfl (by decide) rfl ?_
      refine G.goto (tgt := 21) E dX7_mark_94 (by decide) ?_
      refine G.loc [1, 2, 0] rfl ?_
      exact ih (x3 + 1) s13
noncomputable def f_X7_mark (N : Nat) (σ : Wd) : Option (Wd) :=
  gI σ 1 1 fun v1 =>
  bP (f_X1_begin N σ v1) fun s2 =>
  bS (f_X7_countRest N s2) fun v3 s4 =>
  fl_X7_mark_21 N v3 (fun s14 =>
    some s14) N 0 s4
set_option maxHeartbeats 4000000 in
set_option maxRecDepth 100000 in
theorem c_X7_mark {l : Launch} {D : va_G} {cy : Nat → ClassId} {h : Nat → Nat} {N : Nat} {σ : Wd} {σ1 : Wd} (hW : WF (wsC cy h) (adC h)) (hr : f_X7_mark N σ = some σ1) : Con l D cy (wsC cy h) (adC h) yX7_mark wsX7_mark rm_X7_mark 0 0 [.ref (h 0)] (none) σ σ1 := by
  refine Con.of (ρ := Wd) (lv0 := [(0, .ref (h 0))]) (σ := σ) (fun _ : Wd => none) (fun r => r) (by decide) rfl rfl (Nat.le_of_ble_eq_true rfl) rfl hW hr (fun p e s m args below meth c E => ?_)
  unfold f_X7_mark
  refine G.aload_n E dX7_mark_0 0 rfl rfl ?_
  refine G.getR (T := TX7) (N := 7) (C := RX7) (q0 := 0) (i := 5) E dX7_mark_1 iw_X7_mark_7 (wsC_at0 _ _ _) rfl (by decide) rfl (List.mem_of_getElem? (i := 1) rfl) ?_
  refine G.aload_n E dX7_mark_4 0 rfl rfl ?_
  refine G.getR (T := TX7) (N := 7) (C := RX7) (q0 := 0) (i := 0) E dX7_mark_5 iw_X7_mark_7 (wsC_at0 _ _ _) rfl (by decide) rfl (List.mem_of_getElem? (i := 2) rfl) ?_
  refine G.getI (T := TX4) (N := 8) (C := RX4) (q0 := 1) (i := 1) E dX7_mark_8 iw_X7_mark_4 (wsC_at1 _ _ _) rfl (by decide) rfl (List.mem_of_getElem? (i := 3) rfl) (fun v1 => ?_)
  refine G.callVv (n := 1) (T := TX1) (N := 3) (C := RX1) (a := h 40) (q0 := 40) (As := [.int v1]) E dX7_mark_11 (fun _ hv => c_X1_begin E.wf hv) gX7_mark_X1_begin rfl rfl rfl (by decide +kernel) ⟨Nat.le_of_ble_eq_true rfl, Nat.le_of_ble_eq_true rfl⟩ (wsC_at40 _ _ _) rfl rfl (Nat.le_of_ble_eq_true rfl) ⟨Nat.le_of_ble_eq_true rfl, Nat.le_of_ble_eq_true rfl⟩ (fun s2 => ?_)
  refine G.aload_n E dX7_mark_14 0 rfl rfl ?_
  refine G.callVls (n := 0) (T := TX7) (N := 7) (C := RX7) (a := h 0) (q0 := 0) (As := []) E dX7_mark_15 (fun _ _ hv => c_X7_countRest E.wf hv) gX7_mark_X7_countRest rfl rfl rfl (by decide +kernel) ⟨Nat.le_of_ble_eq_true rfl, Nat.le_of_ble_eq_true rfl⟩ (wsC_at0 _ _ _) rfl rfl (Nat.le_of_ble_eq_true rfl) ⟨Nat.le_of_ble_eq_true rfl, Nat.le_of_ble_eq_true rfl⟩ (fun v3 s4 => ?_)
  refine G.lstore_n (lv' := [(1, .long v3), (0, .ref (h 0))]) E dX7_mark_18 rfl (by decide) rfl ?_
  refine G.iconst (v := 0) E dX7_mark_19 (by decide) ?_
  refine G.istore_n (lv' := [(3, .int 0), (1, .long v3), (0, .ref (h 0))]) E dX7_mark_20 rfl (by decide) rfl ?_
  refine G.loc [2, 1, 0] rfl ?_
  refine gl_X7_mark_21 E (fun s14 => ?_) N _ _
  exact G.vret E dX7_mark_97 rfl rfl
set_option maxHeartbeats 4000000 in
set_option maxRecDepth 100000 in
theorem iw_X7_needWire_7 : ∀ w ∈ u_ws RX7 TX7 7, w ∈ wsX7_needWire := fun _ h => List.mem_cons_of_mem _ (List.mem_append_left _ (List.mem_append_left _ (List.mem_append_right _ h)))
set_option maxHeartbeats 4000000 in
set_option maxRecDepth 100000 in
theorem ia_X7_needWire_187 : ∀ w ∈ (vx_atS RX7 187 "java/lang/IndexOutOfBoundsException" ["java/lang/RuntimeException", "java/lang/Exception"]).filter goodWord, w ∈ wsX7_needWire := fun w h => List.mem_cons_of_mem _ (List.mem_append_right _ h)
abbrev rm_X7_needWire : Room := { frames := 8, cells := 1, slots := 6, locals := 120 }
noncomputable def f_X7_needWire (N : Nat) (σ : Wd) (a0 : Int32) : Option ((Nat ⊕ Unit) × Wd) :=
  bP (f_X4_hasWire N σ a0) fun v1 =>
  if v1 = 0 then (
    some (.inl 1, σ))
  else (
    some (.inr (), σ))
set_option maxHeartbeats 4000000 in
set_option maxRecDepth 100000 in
theorem c_X7_needWire {l : Launch} {D : va_G} {cy : Nat → ClassId} {h : Nat → Nat} {N : Nat} {σ : Wd} {a0 : Int32} {r : (Nat ⊕ Unit) × Wd} (hW : WF (wsC cy h) (adC h)) (hfl : l.stackTraces = false) (hr : f_X7_needWire N σ a0 = some r) : ConX l D cy (wsC cy h) (adC h) yX7_needWire wsX7_needWire rm_X7_needWire 1 6 [.ref (h 0), .int a0] (ooV r) σ r.2 := by
  refine ConX.of (lv0 := [(0, .ref (h 0)), (1, .int a0)]) (σ := σ) ooV (fun r => r.2) (by decide) rfl rfl (Nat.le_of_ble_eq_true rfl) rfl hW hfl hr (fun p e s m args below meth c E EX0 => ?_)
  unfold f_X7_needWire
  refine G.aload_n E dX7_needWire_0 0 rfl rfl ?_
  refine G.getR (T := TX7) (N := 7) (C := RX7) (q0 := 0) (i := 0) E dX7_needWire_1 iw_X7_needWire_7 (wsC_at0 _ _ _) rfl (by decide) rfl (List.mem_of_getElem? (i := 3) rfl) ?_
  refine G.iload_n E dX7_needWire_4 1 rfl rfl ?_
  refine G.callVi (n := 1) (T := TX4) (N := 8) (C := RX4) (a := h 1) (q0 := 1) (As := [.int a0]) E dX7_needWire_5 (fun _ hv => c_X4_hasWire E.wf hv) gX7_needWire_X4_hasWire rfl rfl rfl (by decide +kernel) ⟨Nat.le_of_ble_eq_true rfl, Nat.le_of_ble_eq_true rfl⟩ (wsC_at1 _ _ _) rfl rfl (Nat.le_of_ble_eq_true rfl) ⟨Nat.le_of_ble_eq_true rfl, Nat.le_of_ble_eq_true rfl⟩ (fun v1 => ?_)
  refine G.if_ne (tgt := 21) E dX7_needWire_8 (by decide) ?_ ?_
  · exact G.throwS (q := 1) (text := "there is no such wire") (cls := "java/lang/IndexOutOfBoundsException") (names := ["java/lang/RuntimeException", "java/lang/Exception"]) E EX0 (by decide +kernel) (by decide +kernel) (List.mem_of_getElem? (i := 1) rfl) (List.mem_of_getElem? (i := 2) rfl) (by decide +kernel) ia_X7_needWire_187 atg_187 (otw_183_187) dX7_needWire_11 dX7_needWire_14 dX7_needWire_15 dX7_needWire_17 dX7_needWire_20 ⟨Nat.le_of_ble_eq_true rfl, Nat.le_of_ble_eq_true rfl⟩ ⟨Nat.le_of_ble_eq_true rfl, Nat.le_of_ble_eq_true rfl⟩ rfl rfl rfl (Nat.le_of_ble_eq_true rfl) (Nat.le_of_ble_eq_true rfl)
  · exact G.x_vret E dX7_needWire_21 rfl (Nat.le_of_ble_eq_true rfl) (Nat.le_of_ble_eq_true rfl) rfl rfl
abbrev rm_X7_needWireOrNode : Room := { frames := 9, cells := 2, slots := 12, locals := 141 }
noncomputable def f_X7_needWireOrNode (N : Nat) (σ : Wd) (a0 : Int32) (a1 : Int32) : Option ((Nat ⊕ Unit) × Wd) :=
  bP (f_X7_isOfWire N a0) fun v1 =>
  if v1 = 0 then (
    bX (f_X7_needNode N σ a1) fun v2 s3 =>
    some (.inr (), s3))
  else (
    bX (f_X7_needWire N σ a1) fun v4 s5 =>
    some (.inr (), s5))
set_option maxHeartbeats 4000000 in
set_option maxRecDepth 100000 in
theorem c_X7_needWireOrNode {l : Launch} {D : va_G} {cy : Nat → ClassId} {h : Nat → Nat} {N : Nat} {σ : Wd} {a0 : Int32} {a1 : Int32} {r : (Nat ⊕ Unit) × Wd} (hW : WF (wsC cy h) (adC h)) (hfl : l.stackTraces = false) (hr : f_X7_needWireOrNode N σ a0 a1 = some r) : ConX l D cy (wsC cy h) (adC h) yX7_needWireOrNode wsX7_needWireOrNode rm_X7_needWireOrNode 2 12 [.ref (h 0), .int a0, .int a1] (ooV r) σ r.2 := by
  refine ConX.of (lv0 := [(0, .ref (h 0)), (1, .int a0), (2, .int a1)]) (σ := σ) ooV (fun r => r.2) (by decide) rfl rfl (Nat.le_of_ble_eq_true rfl) rfl hW hfl hr (fun p e s m args below meth c E EX0 => ?_)
  unfold f_X7_needWireOrNode
  refine G.iload_n E dX7_needWireOrNode_0 1 rfl rfl ?_
  refine G.callSi (n := 1) (As := [.int a0]) E dX7_needWireOrNode_1 (fun _ hv => c_X7_isOfWire E.wf hv) gX7_needWireOrNode_X7_isOfWire rfl rfl rfl (by decide +kernel) ⟨Nat.le_of_ble_eq_true rfl, Nat.le_of_ble_eq_true rfl⟩ rfl (Nat.le_of_ble_eq_true rfl) ⟨Nat.le_of_ble_eq_true rfl, Nat.le_of_ble_eq_true rfl⟩ (fun v1 => ?_)
  refine G.if_eq (tgt := 15) E dX7_needWireOrNode_4 (by decide) ?_ ?_
  · refine G.aload_n E dX7_needWireOrNode_15 0 rfl rfl ?_
    refine G.iload_n E dX7_needWireOrNode_16 2 rfl rfl ?_
    refine G.callXv (n := 1) (T := TX7) (N := 7) (C := RX7) (a := h 0) (q0 := 0) (As := [.int a1]) E EX0 dX7_needWireOrNode_17 (fun _ hv => c_X7_needNode E.wf EX0.1 hv) gX7_needWireOrNode_X7_needNode rfl rfl rfl (by decide +kernel) ⟨(Nat.le_of_ble_eq_true rfl), (Nat.le_of_ble_eq_true rfl)⟩ (wsC_at0 _ _ _) rfl rfl (Nat.le_of_ble_eq_true rfl) ⟨(Nat.le_of_ble_eq_true rfl), (Nat.le_of_ble_eq_true rfl)⟩ (Nat.le_of_ble_eq_true rfl) (Nat.le_of_ble_eq_true rfl) (fun _ _ => rfl) (fun v2 s3 => ?_)
    exact G.x_vret E dX7_needWireOrNode_20 rfl (Nat.le_of_ble_eq_true rfl) (Nat.le_of_ble_eq_true rfl) rfl rfl
  · refine G.aload_n E dX7_needWireOrNode_7 0 rfl rfl ?_
    refine G.iload_n E dX7_needWireOrNode_8 2 rfl rfl ?_
    refine G.callXv (n := 1) (T := TX7) (N := 7) (C := RX7) (a := h 0) (q0 := 0) (As := [.int a1]) E EX0 dX7_needWireOrNode_9 (fun _ hv => c_X7_needWire E.wf EX0.1 hv) gX7_needWireOrNode_X7_needWire rfl rfl rfl (by decide +kernel) ⟨(Nat.le_of_ble_eq_true rfl), (Nat.le_of_ble_eq_true rfl)⟩ (wsC_at0 _ _ _) rfl rfl (Nat.le_of_ble_eq_true rfl) ⟨(Nat.le_of_ble_eq_true rfl), (Nat.le_of_ble_eq_true rfl)⟩ (Nat.le_of_ble_eq_true rfl) (Nat.le_of_ble_eq_true rfl) (fun _ _ => rfl) (fun v4 s5 => ?_)
    refine G.goto (tgt := 20) E dX7_needWireOrNode_12 (by decide) ?_
    exact G.x_vret E dX7_needWireOrNode_20 rfl (Nat.le_of_ble_eq_true rfl) (Nat.le_of_ble_eq_true rfl) rfl rfl
set_option maxHeartbeats 4000000 in
set_option maxRecDepth 100000 in
theorem iw_X7_move_7 : ∀ w ∈ u_ws RX7 TX7 7, w ∈ wsX7_move := fun _ h => List.mem_cons_of_mem _ (List.mem_append_left _ (List.mem_append_left _ (List.mem_append_left _ (List.mem_append_left _ (List.mem_append_left _ (List.mem_append_left _ (List.mem_append_right _ h)))))))
set_option maxHeartbeats 4000000 in
set_option maxRecDepth 100000 in
theorem ia_X7_move_65 : ∀ w ∈ (vx_atS RX7 65 "java/lang/IllegalStateException" ["java/lang/RuntimeException", "java/lang/Exception"]).filter goodWord, w ∈ wsX7_move := fun w h => List.mem_cons_of_mem _ (List.mem_append_left _ (List.mem_append_right _ h))
set_option maxHeartbeats 4000000 in
set_option maxRecDepth 100000 in
theorem ia_X7_move_87 : ∀ w ∈ (vx_atS RX7 87 "java/lang/IllegalArgumentException" ["java/lang/RuntimeException", "java/lang/Exception"]).filter goodWord, w ∈ wsX7_move := fun w h => List.mem_cons_of_mem _ (List.mem_append_left _ (List.mem_append_left _ (List.mem_append_right _ h)))
abbrev rm_X7_move : Room := { frames := 10, cells := 3, slots := 18, locals := 163 }
noncomputable def f_X7_move (N : Nat) (σ : Wd) (a0 : Int32) (a1 : Int32) : Option ((Nat ⊕ Unit) × Wd) :=
  jn (fun (_u : Unit) => ((
    some (.inl 2, σ)) : Option ((Nat ⊕ Unit) × Wd))) fun j18 =>
  if a0 < 0 then (
    j18 ())
  else (
    if 5 < a0 then (
      j18 ())
    else (
      bX (f_X7_needWireOrNode N σ a0 a1) fun v1 s2 =>
      bS (f_X3_doIfPossible N s2 a0 a1) fun v3 s4 =>
      if v3 = 0 then (
        some (.inl 3, s4))
      else (
        some (.inr (), s4))))
set_option maxHeartbeats 4000000 in
set_option maxRecDepth 100000 in
theorem c_X7_move {l : Launch} {D : va_G} {cy : Nat → ClassId} {h : Nat → Nat} {N : Nat} {σ : Wd} {a0 : Int32} {a1 : Int32} {r : (Nat ⊕ Unit) × Wd} (hW : WF (wsC cy h) (adC h)) (hfl : l.stackTraces = false) (hr : f_X7_move N σ a0 a1 = some r) : ConX l D cy (wsC cy h) (adC h) yX7_move wsX7_move rm_X7_move 3 18 [.ref (h 0), .int a0, .int a1] (ooV r) σ r.2 := by
  refine ConX.of (lv0 := [(0, .ref (h 0)), (1, .int a0), (2, .int a1)]) (σ := σ) ooV (fun r => r.2) (by decide) rfl rfl (Nat.le_of_ble_eq_true rfl) rfl hW hfl hr (fun p e s m args below meth c E EX0 => ?_)
  unfold f_X7_move
  refine G.iload_n E dX7_move_0 1 rfl rfl ?_
  refine G.jn (P := fun j => ∀ (_u : Unit), G p l e (headSpec wsX7_move rm_X7_move).room s m args below meth c 3 0 0 D (wsC cy h) (adC h) (QX D (wsC cy h) (adC h) below args s 3 18 ooV (fun r => r.2)) 18 [] [] σ (j _u)) ?_ (fun j18 hj18 => ?_)
  · intro _u
    exact G.throwS (q := 2) (text := "a kind is LOOP to STAR") (cls := "java/lang/IllegalArgumentException") (names := ["java/lang/RuntimeException", "java/lang/Exception"]) E EX0 (by decide +kernel) (by decide +kernel) (List.mem_of_getElem? (i := 1) rfl) (List.mem_of_getElem? (i := 2) rfl) (by decide +kernel) ia_X7_move_87 atg_87 (otw_83_87) dX7_move_18 dX7_move_21 dX7_move_22 dX7_move_24 dX7_move_27 ⟨Nat.le_of_ble_eq_true rfl, Nat.le_of_ble_eq_true rfl⟩ ⟨Nat.le_of_ble_eq_true rfl, Nat.le_of_ble_eq_true rfl⟩ rfl rfl rfl (Nat.le_of_ble_eq_true rfl) (Nat.le_of_ble_eq_true rfl)
  · refine G.if_lt (tgt := 18) E dX7_move_1 (by decide) ?_ ?_
    · refine G.loc [] rfl ?_
      exact hj18 ()
    · refine G.iload_n E dX7_move_4 1 rfl rfl ?_
      refine G.iconst (v := 5) E dX7_move_5 (by decide) ?_
      refine G.icmp_gt (tgt := 18) E dX7_move_6 (by decide) ?_ ?_
      · refine G.loc [] rfl ?_
        exact hj18 ()
      · refine G.aload_n E dX7_move_9 0 rfl rfl ?_
        refine G.iload_n E dX7_move_10 1 rfl rfl ?_
        refine G.iload_n E dX7_move_11 2 rfl rfl ?_
        refine G.callXv (n := 2) (T := TX7) (N := 7) (C := RX7) (a := h 0) (q0 := 0) (As := [.int a0, .int a1]) E EX0 dX7_move_12 (fun _ hv => c_X7_needWireOrNode E.wf EX0.1 hv) gX7_move_X7_needWireOrNode rfl rfl rfl (by decide +kernel) ⟨(Nat.le_of_ble_eq_true rfl), (Nat.le_of_ble_eq_true rfl)⟩ (wsC_at0 _ _ _) rfl rfl (Nat.le_of_ble_eq_true rfl) ⟨(Nat.le_of_ble_eq_true rfl), (Nat.le_of_ble_eq_true rfl)⟩ (Nat.le_of_ble_eq_true rfl) (Nat.le_of_ble_eq_true rfl) (fun _ _ => rfl) (fun v1 s2 => ?_)
        refine G.goto (tgt := 28) E dX7_move_15 (by decide) ?_
        refine G.aload_n E dX7_move_28 0 rfl rfl ?_
        refine G.getR (T := TX7) (N := 7) (C := RX7) (q0 := 0) (i := 4) E dX7_move_29 iw_X7_move_7 (wsC_at0 _ _ _) rfl (by decide) rfl (List.mem_of_getElem? (i := 5) rfl) ?_
        refine G.iload_n E dX7_move_32 1 rfl rfl ?_
        refine G.iload_n E dX7_move_33 2 rfl rfl ?_
        refine G.callVis (n := 2) (T := TX3) (N := 10) (C := RX3) (a := h 28) (q0 := 28) (As := [.int a0, .int a1]) E dX7_move_34 (fun _ _ hv => c_X3_doIfPossible E.wf hv) gX7_move_X3_doIfPossible rfl rfl rfl (by decide +kernel) ⟨Nat.le_of_ble_eq_true rfl, Nat.le_of_ble_eq_true rfl⟩ (wsC_at28 _ _ _) rfl rfl (Nat.le_of_ble_eq_true rfl) ⟨Nat.le_of_ble_eq_true rfl, Nat.le_of_ble_eq_true rfl⟩ (fun v3 s4 => ?_)
        refine G.if_ne (tgt := 50) E dX7_move_37 (by decide) ?_ ?_
        · exact G.throwS (q := 3) (text := "the move is not possible") (cls := "java/lang/IllegalStateException") (names := ["java/lang/RuntimeException", "java/lang/Exception"]) E EX0 (by decide +kernel) (by decide +kernel) (List.mem_of_getElem? (i := 3) rfl) (List.mem_of_getElem? (i := 4) rfl) (by decide +kernel) ia_X7_move_65 atg_65 (otw_61_65) dX7_move_40 dX7_move_43 dX7_move_44 dX7_move_46 dX7_move_49 ⟨Nat.le_of_ble_eq_true rfl, Nat.le_of_ble_eq_true rfl⟩ ⟨Nat.le_of_ble_eq_true rfl, Nat.le_of_ble_eq_true rfl⟩ rfl rfl rfl (Nat.le_of_ble_eq_true rfl) (Nat.le_of_ble_eq_true rfl)
        · exact G.x_vret E dX7_move_50 rfl (Nat.le_of_ble_eq_true rfl) (Nat.le_of_ble_eq_true rfl) rfl rfl
set_option maxHeartbeats 4000000 in
set_option maxRecDepth 100000 in
theorem iw_X7_node_7 : ∀ w ∈ u_ws RX7 TX7 7, w ∈ wsX7_node := fun _ h => List.mem_cons_of_mem _ (List.mem_append_left _ (List.mem_append_left _ (List.mem_append_left _ (List.mem_append_right _ h))))
set_option maxHeartbeats 4000000 in
set_option maxRecDepth 100000 in
theorem ia_X7_node_65 : ∀ w ∈ (vx_atS RX7 65 "java/lang/IllegalStateException" ["java/lang/RuntimeException", "java/lang/Exception"]).filter goodWord, w ∈ wsX7_node := fun w h => List.mem_cons_of_mem _ (List.mem_append_right _ h)
abbrev rm_X7_node : Room := { frames := 8, cells := 1, slots := 6, locals := 120 }
noncomputable def f_X7_node (N : Nat) (σ : Wd) (a0 : Int32) : Option ((Nat ⊕ Int32) × Wd) :=
  bP (f_X4_hasRoom N σ 1 0) fun v1 =>
  if v1 = 0 then (
    some (.inl 3, σ))
  else (
    bP (f_X3_forget N σ) fun s2 =>
    bS (f_X4_addNode N s2 a0) fun v3 s4 =>
    some (.inr v3, s4))
set_option maxHeartbeats 4000000 in
set_option maxRecDepth 100000 in
theorem c_X7_node {l : Launch} {D : va_G} {cy : Nat → ClassId} {h : Nat → Nat} {N : Nat} {σ : Wd} {a0 : Int32} {r : (Nat ⊕ Int32) × Wd} (hW : WF (wsC cy h) (adC h)) (hfl : l.stackTraces = false) (hr : f_X7_node N σ a0 = some r) : ConX l D cy (wsC cy h) (adC h) yX7_node wsX7_node rm_X7_node 1 6 [.ref (h 0), .int a0] (ooI r) σ r.2 := by
  refine ConX.of (lv0 := [(0, .ref (h 0)), (1, .int a0)]) (σ := σ) ooI (fun r => r.2) (by decide) rfl rfl (Nat.le_of_ble_eq_true rfl) rfl hW hfl hr (fun p e s m args below meth c E EX0 => ?_)
  unfold f_X7_node
  refine G.aload_n E dX7_node_0 0 rfl rfl ?_
  refine G.getR (T := TX7) (N := 7) (C := RX7) (q0 := 0) (i := 0) E dX7_node_1 iw_X7_node_7 (wsC_at0 _ _ _) rfl (by decide) rfl (List.mem_of_getElem? (i := 3) rfl) ?_
  refine G.iconst (v := 1) E dX7_node_4 (by decide) ?_
  refine G.iconst (v := 0) E dX7_node_5 (by decide) ?_
  refine G.callVi (n := 2) (T := TX4) (N := 8) (C := RX4) (a := h 1) (q0 := 1) (As := [.int 1, .int 0]) E dX7_node_6 (fun _ hv => c_X4_hasRoom E.wf hv) gX7_node_X4_hasRoom rfl rfl rfl (by decide +kernel) ⟨Nat.le_of_ble_eq_true rfl, Nat.le_of_ble_eq_true rfl⟩ (wsC_at1 _ _ _) rfl rfl (Nat.le_of_ble_eq_true rfl) ⟨Nat.le_of_ble_eq_true rfl, Nat.le_of_ble_eq_true rfl⟩ (fun v1 => ?_)
  refine G.if_ne (tgt := 22) E dX7_node_9 (by decide) ?_ ?_
  · exact G.throwS (q := 3) (text := "there were 7 nodes") (cls := "java/lang/IllegalStateException") (names := ["java/lang/RuntimeException", "java/lang/Exception"]) E EX0 (by decide +kernel) (by decide +kernel) (List.mem_of_getElem? (i := 1) rfl) (List.mem_of_getElem? (i := 2) rfl) (by decide +kernel) ia_X7_node_65 atg_65 (otw_61_65) dX7_node_12 dX7_node_15 dX7_node_16 dX7_node_18 dX7_node_21 ⟨Nat.le_of_ble_eq_true rfl, Nat.le_of_ble_eq_true rfl⟩ ⟨Nat.le_of_ble_eq_true rfl, Nat.le_of_ble_eq_true rfl⟩ rfl rfl rfl (Nat.le_of_ble_eq_true rfl) (Nat.le_of_ble_eq_true rfl)
  · refine G.aload_n E dX7_node_22 0 rfl rfl ?_
    refine G.getR (T := TX7) (N := 7) (C := RX7) (q0 := 0) (i := 4) E dX7_node_23 iw_X7_node_7 (wsC_at0 _ _ _) rfl (by decide) rfl (List.mem_of_getElem? (i := 4) rfl) ?_
    refine G.callVv (n := 0) (T := TX3) (N := 10) (C := RX3) (a := h 28) (q0 := 28) (As := []) E dX7_node_26 (fun _ hv => c_X3_forget E.wf hv) gX7_node_X3_forget rfl rfl rfl (by decide +kernel) ⟨Nat.le_of_ble_eq_true rfl, Nat.le_of_ble_eq_true rfl⟩ (wsC_at28 _ _ _) rfl rfl (Nat.le_of_ble_eq_true rfl) ⟨Nat.le_of_ble_eq_true rfl, Nat.le_of_ble_eq_true rfl⟩ (fun s2 => ?_)
    refine G.aload_n E dX7_node_29 0 rfl rfl ?_
    refine G.getR (T := TX7) (N := 7) (C := RX7) (q0 := 0) (i := 0) E dX7_node_30 iw_X7_node_7 (wsC_at0 _ _ _) rfl (by decide) rfl (List.mem_of_getElem? (i := 3) rfl) ?_
    refine G.iload_n E dX7_node_33 1 rfl rfl ?_
    refine G.callVis (n := 1) (T := TX4) (N := 8) (C := RX4) (a := h 1) (q0 := 1) (As := [.int a0]) E dX7_node_34 (fun _ _ hv => c_X4_addNode E.wf hv) gX7_node_X4_addNode rfl rfl rfl (by decide +kernel) ⟨Nat.le_of_ble_eq_true rfl, Nat.le_of_ble_eq_true rfl⟩ (wsC_at1 _ _ _) rfl rfl (Nat.le_of_ble_eq_true rfl) ⟨Nat.le_of_ble_eq_true rfl, Nat.le_of_ble_eq_true rfl⟩ (fun v3 s4 => ?_)
    exact G.x_iret E dX7_node_37 rfl (Nat.le_of_ble_eq_true rfl) (Nat.le_of_ble_eq_true rfl) rfl rfl
set_option maxHeartbeats 4000000 in
set_option maxRecDepth 100000 in
theorem iw_X7_nodes_4 : ∀ w ∈ u_ws RX4 TX4 8, w ∈ wsX7_nodes := fun _ h => List.mem_cons_of_mem _ (List.mem_append_right _ h)
set_option maxHeartbeats 4000000 in
set_option maxRecDepth 100000 in
theorem iw_X7_nodes_7 : ∀ w ∈ u_ws RX7 TX7 7, w ∈ wsX7_nodes := fun _ h => List.mem_cons_of_mem _ (List.mem_append_left _ (List.mem_append_right _ h))
abbrev rm_X7_nodes : Room := { frames := 0, cells := 0, slots := 0, locals := 0 }
noncomputable def f_X7_nodes (N : Nat) (σ : Wd) : Option (Int32) :=
  gI σ 1 0 fun v1 =>
  some v1
set_option maxHeartbeats 4000000 in
set_option maxRecDepth 100000 in
theorem c_X7_nodes {l : Launch} {D : va_G} {cy : Nat → ClassId} {h : Nat → Nat} {N : Nat} {σ : Wd} {r : Int32} (hW : WF (wsC cy h) (adC h)) (hr : f_X7_nodes N σ = some r) : Con l D cy (wsC cy h) (adC h) yX7_nodes wsX7_nodes rm_X7_nodes 0 0 [.ref (h 0)] (some (.int r)) σ σ := by
  refine Con.of (ρ := Int32) (lv0 := [(0, .ref (h 0))]) (σ := σ) (fun r : Int32 => some (.int r)) (fun _ => σ) (by decide) rfl rfl (Nat.le_of_ble_eq_true rfl) rfl hW hr (fun p e s m args below meth c E => ?_)
  unfold f_X7_nodes
  refine G.aload_n E dX7_nodes_0 0 rfl rfl ?_
  refine G.getR (T := TX7) (N := 7) (C := RX7) (q0 := 0) (i := 0) E dX7_nodes_1 iw_X7_nodes_7 (wsC_at0 _ _ _) rfl (by decide) rfl (List.mem_of_getElem? (i := 1) rfl) ?_
  refine G.getI (T := TX4) (N := 8) (C := RX4) (q0 := 1) (i := 0) E dX7_nodes_4 iw_X7_nodes_4 (wsC_at1 _ _ _) rfl (by decide) rfl (List.mem_of_getElem? (i := 2) rfl) (fun v1 => ?_)
  exact G.iret E dX7_nodes_7 rfl rfl
set_option maxHeartbeats 4000000 in
set_option maxRecDepth 100000 in
theorem iw_X7_upperOfPotential_4 : ∀ w ∈ u_ws RX4 TX4 8, w ∈ wsX7_upperOfPotential := fun _ h => List.mem_cons_of_mem _ (List.mem_append_left _ (List.mem_append_right _ h))
set_option maxHeartbeats 4000000 in
set_option maxRecDepth 100000 in
theorem iw_X7_upperOfPotential_7 : ∀ w ∈ u_ws RX7 TX7 7, w ∈ wsX7_upperOfPotential := fun _ h => List.mem_cons_of_mem _ (List.mem_append_left _ (List.mem_append_left _ (List.mem_append_right _ h)))
abbrev rm_X7_upperOfPotential : Room := { frames := 14, cells := 0, slots := 0, locals := 358 }
noncomputable def fl_X7_upperOfPotential_5 {ρ : Type} (N : Nat) (x1 : Int32) (K : Int64 → Wd → Option ρ) : Nat → Int64 → Int32 → Wd → Option ρ
  | 0, _, _, _ => none
  | n + 1, x2, x4, s0 =>
    if 7 ≤ x4 then (
      K x2 s0)
    else (
      bP (f_X4_hasEdge N s0 x4) fun v1 =>
      jn (fun (v2 : Int64) (s3 : Wd) => ((
        fl_X7_upperOfPotential_5 N x1 K n v2 (x4 + 1) s3) : Option (ρ))) fun j51 =>
      if v1 = 0 then (
        j51 x2 s0)
      else (
        bP (f_X7_valueOf N s0 x4) fun v4 =>
        gI s0 1 1 fun v5 =>
        bS (f_X0_countWith N s0 v5 x1 x4) fun v6 s7 =>
        lL (x2 + (v4 * v6)) fun v8 =>
        j51 v8 s7))
set_option maxHeartbeats 4000000 in
set_option maxRecDepth 100000 in
theorem gl_X7_upperOfPotential_5 {ρ : Type} {Q : ρ → State → Prop} {N : Nat} {x1 : Int32} {K : Int64 → Wd → Option ρ} (E : EV p s m args meth c cX7_upperOfPotential 5 RX7 wsX7_upperOfPotential (some .long) D cy (wsC cy h) (adC h)) (hK : ∀ (x2' : Int64) (s' : Wd), G p l e (headSpec wsX7_upperOfPotential rm_X7_upperOfPotential).room s m args below meth c 5 0 0 D (wsC cy h) (adC h) Q 57 [(2, .long (x2'))] [] s' (K x2' s')) :
  ∀ (n : Nat) (x2 : Int64) (x4 : Int32) (s0 : Wd), G p l e (headSpec wsX7_upperOfPotential rm_X7_upperOfPotential).room s m args below meth c 5 0 0 D (wsC cy h) (adC h) Q 5 [(0, .ref (h 0)), (1, .int x1), (2, .long x2), (4, .int x4)] [] s0 (fl_X7_upperOfPotential_5 N x1 K n x2 x4 s0) := by
  intro n
  induction n with
  | zero => intros; exact G.no
  | succ n ih =>
    intro x2 x4 s0
    rw [fl_X7_upperOfPotential_5]
    refine G.iload E dX7_upperOfPotential_5 3 rfl ?_
    refine G.bipush (v := 7) E dX7_upperOfPotential_7 (by decide) ?_
    refine G.icmp_ge (tgt := 57) E dX7_upperOfPotential_9 (by decide) ?_ ?_
    · refine G.loc [2] rfl ?_
      exact hK x2 s0
    · refine G.aload_n E dX7_upperOfPotential_12 0 rfl rfl ?_
      refine G.getR (T := TX7) (N := 7) (C := RX7) (q0 := 0) (i := 0) E dX7_upperOfPotential_13 iw_X7_upperOfPotential_7 (wsC_at0 _ _ _) rfl (by decide) rfl (List.mem_of_getElem? (i := 1) rfl) ?_
      refine G.iload E dX7_upperOfPotential_16 3 rfl ?_
      refine G.callVi (n := 1) (T := TX4) (N := 8) (C := RX4) (a := h 1) (q0 := 1) (As := [.int x4]) E dX7_upperOfPotential_18 (fun _ hv => c_X4_hasEdge E.wf hv) gX7_upperOfPotential_X4_hasEdge rfl rfl rfl (by decide +kernel) ⟨Nat.le_of_ble_eq_true rfl, Nat.le_of_ble_eq_true rfl⟩ (wsC_at1 _ _ _) rfl rfl (Nat.le_of_ble_eq_true rfl) ⟨Nat.le_of_ble_eq_true rfl, Nat.le_of_ble_eq_true rfl⟩ (fun v1 => ?_)
      refine G.jn (P := fun j => ∀ (v2 : Int64) (s3 : Wd), G p l e (headSpec wsX7_upperOfPotential rm_X7_upperOfPotential).room s m args below meth c 5 0 0 D (wsC cy h) (adC h) Q 51 [(0, .ref (h 0)), (1, .int x1), (2, .long v2), (4, .int x4)] [] s3 (j v2 s3)) ?_ (fun j51 hj51 => ?_)
      · intro v2 s3
        refine G.iinc (v := x4 + 1) (lv' := [(4, .int (x4 + 1)), (0, .ref (h 0)), (1, .int x1), (2, .long v2)]) E dX7_upperOfPotential_51 3 rfl rfl (by decide) rfl ?_
        refine G.goto (tgt := 5) E dX7_upperOfPotential_54 (by decide) ?_
        refine G.loc [1, 2, 3, 0] rfl ?_
        exact ih v2 (x4 + 1) s3
      · refine G.if_eq (tgt := 51) E dX7_upperOfPotential_21 (by decide) ?_ ?_
        · refine G.loc [0, 1, 2, 3] rfl ?_
          exact hj51 x2 s0
        · refine G.lload_n E dX7_upperOfPotential_24 2 rfl rfl ?_
          refine G.aload_n E dX7_upperOfPotential_25 0 rfl rfl ?_
          refine G.iload E dX7_upperOfPotential_26 3 rfl ?_
          refine G.callVl (n := 1) (T := TX7) (N := 7) (C := RX7) (a := h 0) (q0 := 0) (As := [.int x4]) E dX7_upperOfPotential_28 (fun _ hv => c_X7_valueOf E.wf hv) gX7_upperOfPotential_X7_valueOf rfl rfl rfl (by decide +kernel) ⟨Nat.le_of_ble_eq_true rfl, Nat.le_of_ble_eq_true rfl⟩ (wsC_at0 _ _ _) rfl rfl (Nat.le_of_ble_eq_true rfl) ⟨Nat.le_of_ble_eq_true rfl, Nat.le_of_ble_eq_true rfl⟩ (fun v4 => ?_)
          refine G.aload_n E dX7_upperOfPotential_31 0 rfl rfl ?_
          refine G.getR (T := TX7) (N := 7) (C := RX7) (q0 := 0) (i := 1) E dX7_upperOfPotential_32 iw_X7_upperOfPotential_7 (wsC_at0 _ _ _) rfl (by decide) rfl (List.mem_of_getElem? (i := 2) rfl) ?_
          refine G.aload_n E dX7_upperOfPotential_35 0 rfl rfl ?_
          refine G.getR (T := TX7) (N := 7) (C := RX7) (q0 := 0) (i := 0) E dX7_upperOfPotential_36 iw_X7_upperOfPotential_7 (wsC_at0 _ _ _) rfl (by decide) rfl (List.mem_of_getElem? (i := 1) rfl) ?_
          refine G.getI (T := TX4) (N := 8) (C := RX4) (q0 := 1) (i := 1) E dX7_upperOfPotential_39 iw_X7_upperOfPotential_4 (wsC_at1 _ _ _) rfl (by decide) rfl (List.mem_of_getElem? (i := 3) rfl) (fun v5 => ?_)
          refine G.iload_n E dX7_upperOfPotential_42 1 rfl rfl ?_
          refine G.iload E dX7_upperOfPotential_43 3 rfl ?_
          refine G.callVls (n := 3) (T := TX0) (N := 9) (C := RX0) (a := h 5) (q0 := 5) (As := [.int v5, .int x1, .int x4]) E dX7_upperOfPotential_45 (fun _ _ hv => c_X0_countWith E.wf hv) gX7_upperOfPotential_X0_countWith rfl rfl rfl (by decide +kernel) ⟨Nat.le_of_ble_eq_true rfl, Nat.le_of_ble_eq_true rfl⟩ (wsC_at5 _ _ _) rfl rfl (Nat.le_of_ble_eq_true rfl) ⟨Nat.le_of_ble_eq_true rfl, Nat.le_of_ble_eq_true rfl⟩ (fun v6 s7 => ?_)
          refine G.lmul E dX7_upperOfPotential_48 ?_
          refine G.ladd E dX7_upperOfPotential_49 ?_
          refine G.letL (fun v8 => ?_)
          refine G.lstore_n (lv' := [(2, .long v8), (0, .ref (h 0)), (1, .int x1), (4, .int x4)]) E dX7_upperOfPotential_50 rfl (by decide) rfl ?_
          refine G.loc [1, 2, 0, 3] rfl ?_
          exact hj51 v8 s7
noncomputable def f_X7_upperOfPotential (N : Nat) (σ : Wd) (a0 : Int32) : Option (Int64 × Wd) :=
  fl_X7_upperOfPotential_5 N a0 (fun v9 s10 =>
    some (v9, s10)) N 0 0 σ
set_option maxHeartbeats 4000000 in
set_option maxRecDepth 100000 in
theorem c_X7_upperOfPotential {l : Launch} {D : va_G} {cy : Nat → ClassId} {h : Nat → Nat} {N : Nat} {σ : Wd} {a0 : Int32} {r : Int64} {σ1 : Wd} (hW : WF (wsC cy h) (adC h)) (hr : f_X7_upperOfPotential N σ a0 = some (r, σ1)) : Con l D cy (wsC cy h) (adC h) yX7_upperOfPotential wsX7_upperOfPotential rm_X7_upperOfPotential 0 0 [.ref (h 0), .int a0] (some (.long r)) σ σ1 := by
  refine Con.of (ρ := Int64 × Wd) (lv0 := [(0, .ref (h 0)), (1, .int a0)]) (σ := σ) (fun r : Int64 × Wd => some (.long r.1)) (fun r => r.2) (by decide) rfl rfl (Nat.le_of_ble_eq_true rfl) rfl hW hr (fun p e s m args below meth c E => ?_)
  unfold f_X7_upperOfPotential
  refine G.lconst (v := 0) E dX7_upperOfPotential_0 (by decide) ?_
  refine G.lstore_n (lv' := [(2, .long 0), (0, .ref (h 0)), (1, .int a0)]) E dX7_upperOfPotential_1 rfl (by decide) rfl ?_
  refine G.iconst (v := 0) E dX7_upperOfPotential_2 (by decide) ?_
  refine G.istore (lv' := [(4, .int 0), (2, .long 0), (0, .ref (h 0)), (1, .int a0)]) E dX7_upperOfPotential_3 (by decide) rfl ?_
  refine G.loc [2, 3, 1, 0] rfl ?_
  refine gl_X7_upperOfPotential_5 E (fun v9 s10 => ?_) N _ _ _
  refine G.lload_n E dX7_upperOfPotential_57 0 rfl rfl ?_
  exact G.lret E dX7_upperOfPotential_58 rfl rfl
set_option maxHeartbeats 4000000 in
set_option maxRecDepth 100000 in
theorem iw_X7_potential_7 : ∀ w ∈ u_ws RX7 TX7 7, w ∈ wsX7_potential := fun _ h => List.mem_cons_of_mem _ (List.mem_append_left _ (List.mem_append_left _ (List.mem_append_left _ (List.mem_append_right _ h))))
abbrev rm_X7_potential : Room := { frames := 16, cells := 1, slots := 6, locals := 399 }
noncomputable def f_X7_potential (N : Nat) (σ : Wd) (a0 : Int32) (a1 : Int32) : Option ((Nat ⊕ Int64) × Wd) :=
  bX (f_X7_needNode N σ a0) fun v1 s2 =>
  bP (f_X4_hasEdge N s2 a0) fun v3 =>
  if v3 = 0 then (
    bS (f_X7_upperOfPotential N s2 a0) fun v4 s5 =>
    bS (f_X7_countRest N s5) fun v6 s7 =>
    bP (f_X7_partOf N v4 v6 a1) fun v8 =>
    some (.inr v8, s7))
  else (
    bP (f_X7_valueOf N s2 a0) fun v9 =>
    bP (f_X7_partOf N v9 1 a1) fun v10 =>
    some (.inr v10, s2))
set_option maxHeartbeats 4000000 in
set_option maxRecDepth 100000 in
theorem c_X7_potential {l : Launch} {D : va_G} {cy : Nat → ClassId} {h : Nat → Nat} {N : Nat} {σ : Wd} {a0 : Int32} {a1 : Int32} {r : (Nat ⊕ Int64) × Wd} (hW : WF (wsC cy h) (adC h)) (hfl : l.stackTraces = false) (hr : f_X7_potential N σ a0 a1 = some r) : ConX l D cy (wsC cy h) (adC h) yX7_potential wsX7_potential rm_X7_potential 1 6 [.ref (h 0), .int a0, .int a1] (ooL r) σ r.2 := by
  refine ConX.of (lv0 := [(0, .ref (h 0)), (1, .int a0), (2, .int a1)]) (σ := σ) ooL (fun r => r.2) (by decide) rfl rfl (Nat.le_of_ble_eq_true rfl) rfl hW hfl hr (fun p e s m args below meth c E EX0 => ?_)
  unfold f_X7_potential
  refine G.aload_n E dX7_potential_0 0 rfl rfl ?_
  refine G.iload_n E dX7_potential_1 1 rfl rfl ?_
  refine G.callXv (n := 1) (T := TX7) (N := 7) (C := RX7) (a := h 0) (q0 := 0) (As := [.int a0]) E EX0 dX7_potential_2 (fun _ hv => c_X7_needNode E.wf EX0.1 hv) gX7_potential_X7_needNode rfl rfl rfl (by decide +kernel) ⟨(Nat.le_of_ble_eq_true rfl), (Nat.le_of_ble_eq_true rfl)⟩ (wsC_at0 _ _ _) rfl rfl (Nat.le_of_ble_eq_true rfl) ⟨(Nat.le_of_ble_eq_true rfl), (Nat.le_of_ble_eq_true rfl)⟩ (Nat.le_of_ble_eq_true rfl) (Nat.le_of_ble_eq_true rfl) (fun _ _ => rfl) (fun v1 s2 => ?_)
  refine G.aload_n E dX7_potential_5 0 rfl rfl ?_
  refine G.getR (T := TX7) (N := 7) (C := RX7) (q0 := 0) (i := 0) E dX7_potential_6 iw_X7_potential_7 (wsC_at0 _ _ _) rfl (by decide) rfl (List.mem_of_getElem? (i := 1) rfl) ?_
  refine G.iload_n E dX7_potential_9 1 rfl rfl ?_
  refine G.callVi (n := 1) (T := TX4) (N := 8) (C := RX4) (a := h 1) (q0 := 1) (As := [.int a0]) E dX7_potential_10 (fun _ hv => c_X4_hasEdge E.wf hv) gX7_potential_X4_hasEdge rfl rfl rfl (by decide +kernel) ⟨Nat.le_of_ble_eq_true rfl, Nat.le_of_ble_eq_true rfl⟩ (wsC_at1 _ _ _) rfl rfl (Nat.le_of_ble_eq_true rfl) ⟨Nat.le_of_ble_eq_true rfl, Nat.le_of_ble_eq_true rfl⟩ (fun v3 => ?_)
  refine G.if_eq (tgt := 27) E dX7_potential_13 (by decide) ?_ ?_
  · refine G.aload_n E dX7_potential_27 0 rfl rfl ?_
    refine G.iload_n E dX7_potential_28 1 rfl rfl ?_
    refine G.callVls (n := 1) (T := TX7) (N := 7) (C := RX7) (a := h 0) (q0 := 0) (As := [.int a0]) E dX7_potential_29 (fun _ _ hv => c_X7_upperOfPotential E.wf hv) gX7_potential_X7_upperOfPotential rfl rfl rfl (by decide +kernel) ⟨Nat.le_of_ble_eq_true rfl, Nat.le_of_ble_eq_true rfl⟩ (wsC_at0 _ _ _) rfl rfl (Nat.le_of_ble_eq_true rfl) ⟨Nat.le_of_ble_eq_true rfl, Nat.le_of_ble_eq_true rfl⟩ (fun v4 s5 => ?_)
    refine G.aload_n E dX7_potential_32 0 rfl rfl ?_
    refine G.callVls (n := 0) (T := TX7) (N := 7) (C := RX7) (a := h 0) (q0 := 0) (As := []) E dX7_potential_33 (fun _ _ hv => c_X7_countRest E.wf hv) gX7_potential_X7_countRest rfl rfl rfl (by decide +kernel) ⟨Nat.le_of_ble_eq_true rfl, Nat.le_of_ble_eq_true rfl⟩ (wsC_at0 _ _ _) rfl rfl (Nat.le_of_ble_eq_true rfl) ⟨Nat.le_of_ble_eq_true rfl, Nat.le_of_ble_eq_true rfl⟩ (fun v6 s7 => ?_)
    refine G.iload_n E dX7_potential_36 2 rfl rfl ?_
    refine G.callSl (n := 3) (As := [.long v4, .long v6, .int a1]) E dX7_potential_37 (fun _ hv => c_X7_partOf E.wf hv) gX7_potential_X7_partOf rfl rfl rfl (by decide +kernel) ⟨Nat.le_of_ble_eq_true rfl, Nat.le_of_ble_eq_true rfl⟩ rfl (Nat.le_of_ble_eq_true rfl) ⟨Nat.le_of_ble_eq_true rfl, Nat.le_of_ble_eq_true rfl⟩ (fun v8 => ?_)
    exact G.x_lret E dX7_potential_40 rfl (Nat.le_of_ble_eq_true rfl) (Nat.le_of_ble_eq_true rfl) rfl rfl
  · refine G.aload_n E dX7_potential_16 0 rfl rfl ?_
    refine G.iload_n E dX7_potential_17 1 rfl rfl ?_
    refine G.callVl (n := 1) (T := TX7) (N := 7) (C := RX7) (a := h 0) (q0 := 0) (As := [.int a0]) E dX7_potential_18 (fun _ hv => c_X7_valueOf E.wf hv) gX7_potential_X7_valueOf rfl rfl rfl (by decide +kernel) ⟨Nat.le_of_ble_eq_true rfl, Nat.le_of_ble_eq_true rfl⟩ (wsC_at0 _ _ _) rfl rfl (Nat.le_of_ble_eq_true rfl) ⟨Nat.le_of_ble_eq_true rfl, Nat.le_of_ble_eq_true rfl⟩ (fun v9 => ?_)
    refine G.lconst (v := 1) E dX7_potential_21 (by decide) ?_
    refine G.iload_n E dX7_potential_22 2 rfl rfl ?_
    refine G.callSl (n := 3) (As := [.long v9, .long 1, .int a1]) E dX7_potential_23 (fun _ hv => c_X7_partOf E.wf hv) gX7_potential_X7_partOf rfl rfl rfl (by decide +kernel) ⟨Nat.le_of_ble_eq_true rfl, Nat.le_of_ble_eq_true rfl⟩ rfl (Nat.le_of_ble_eq_true rfl) ⟨Nat.le_of_ble_eq_true rfl, Nat.le_of_ble_eq_true rfl⟩ (fun v10 => ?_)
    exact G.x_lret E dX7_potential_26 rfl (Nat.le_of_ble_eq_true rfl) (Nat.le_of_ble_eq_true rfl) rfl rfl
set_option maxHeartbeats 4000000 in
set_option maxRecDepth 100000 in
theorem iw_X7_power_7 : ∀ w ∈ u_ws RX7 TX7 7, w ∈ wsX7_power := fun _ h => List.mem_cons_of_mem _ (List.mem_append_left _ (List.mem_append_left _ (List.mem_append_right _ h)))
abbrev rm_X7_power : Room := { frames := 16, cells := 0, slots := 0, locals := 404 }
noncomputable def fl_X7_power_5 {ρ : Type} (N : Nat) (x1 : Int32) (K : Int64 → Wd → Option ρ) : Nat → Int64 → Int32 → Wd → Option ρ
  | 0, _, _, _ => none
  | n + 1, x2, x4, s0 =>
    if 7 ≤ x4 then (
      K x2 s0)
    else (
      bP (f_X4_hasEdge N s0 x4) fun v1 =>
      jn (fun (v2 : Int64) (s3 : Wd) => ((
        fl_X7_power_5 N x1 K n v2 (x4 + 1) s3) : Option (ρ))) fun j40 =>
      if v1 = 0 then (
        j40 x2 s0)
      else (
        bP (f_X7_valueOf N s0 x4) fun v4 =>
        bS (f_X7_upperOfCurrent N s0 x4) fun v5 s6 =>
        lL (x2 + (v4 * v5)) fun v7 =>
        j40 v7 s6))
set_option maxHeartbeats 4000000 in
set_option maxRecDepth 100000 in
theorem gl_X7_power_5 {ρ : Type} {Q : ρ → State → Prop} {N : Nat} {x1 : Int32} {K : Int64 → Wd → Option ρ} (E : EV p s m args meth c cX7_power 5 RX7 wsX7_power (some .long) D cy (wsC cy h) (adC h)) (hK : ∀ (x2' : Int64) (s' : Wd), G p l e (headSpec wsX7_power rm_X7_power).room s m args below meth c 5 0 0 D (wsC cy h) (adC h) Q 46 [(0, .ref (h 0)), (1, .int x1), (2, .long (x2'))] [] s' (K x2' s')) :
  ∀ (n : Nat) (x2 : Int64) (x4 : Int32) (s0 : Wd), G p l e (headSpec wsX7_power rm_X7_power).room s m args below meth c 5 0 0 D (wsC cy h) (adC h) Q 5 [(0, .ref (h 0)), (1, .int x1), (2, .long x2), (4, .int x4)] [] s0 (fl_X7_power_5 N x1 K n x2 x4 s0) := by
  intro n
  induction n with
  | zero => intros; exact G.no
  | succ n ih =>
    intro x2 x4 s0
    rw [fl_X7_power_5]
    refine G.iload E dX7_power_5 3 rfl ?_
    refine G.bipush (v := 7) E dX7_power_7 (by decide) ?_
    refine G.icmp_ge (tgt := 46) E dX7_power_9 (by decide) ?_ ?_
    · refine G.loc [0, 1, 2] rfl ?_
      exact hK x2 s0
    · refine G.aload_n E dX7_power_12 0 rfl rfl ?_
      refine G.getR (T := TX7) (N := 7) (C := RX7) (q0 := 0) (i := 0) E dX7_power_13 iw_X7_power_7 (wsC_at0 _ _ _) rfl (by decide) rfl (List.mem_of_getElem? (i := 1) rfl) ?_
      refine G.iload E dX7_power_16 3 rfl ?_
      refine G.callVi (n := 1) (T := TX4) (N := 8) (C := RX4) (a := h 1) (q0 := 1) (As := [.int x4]) E dX7_power_18 (fun _ hv => c_X4_hasEdge E.wf hv) gX7_power_X4_hasEdge rfl rfl rfl (by decide +kernel) ⟨Nat.le_of_ble_eq_true rfl, Nat.le_of_ble_eq_true rfl⟩ (wsC_at1 _ _ _) rfl rfl (Nat.le_of_ble_eq_true rfl) ⟨Nat.le_of_ble_eq_true rfl, Nat.le_of_ble_eq_true rfl⟩ (fun v1 => ?_)
      refine G.jn (P := fun j => ∀ (v2 : Int64) (s3 : Wd), G p l e (headSpec wsX7_power rm_X7_power).room s m args below meth c 5 0 0 D (wsC cy h) (adC h) Q 40 [(0, .ref (h 0)), (1, .int x1), (2, .long v2), (4, .int x4)] [] s3 (j v2 s3)) ?_ (fun j40 hj40 => ?_)
      · intro v2 s3
        refine G.iinc (v := x4 + 1) (lv' := [(4, .int (x4 + 1)), (0, .ref (h 0)), (1, .int x1), (2, .long v2)]) E dX7_power_40 3 rfl rfl (by decide) rfl ?_
        refine G.goto (tgt := 5) E dX7_power_43 (by decide) ?_
        refine G.loc [1, 2, 3, 0] rfl ?_
        exact ih v2 (x4 + 1) s3
      · refine G.if_eq (tgt := 40) E dX7_power_21 (by decide) ?_ ?_
        · refine G.loc [0, 1, 2, 3] rfl ?_
          exact hj40 x2 s0
        · refine G.lload_n E dX7_power_24 2 rfl rfl ?_
          refine G.aload_n E dX7_power_25 0 rfl rfl ?_
          refine G.iload E dX7_power_26 3 rfl ?_
          refine G.callVl (n := 1) (T := TX7) (N := 7) (C := RX7) (a := h 0) (q0 := 0) (As := [.int x4]) E dX7_power_28 (fun _ hv => c_X7_valueOf E.wf hv) gX7_power_X7_valueOf rfl rfl rfl (by decide +kernel) ⟨Nat.le_of_ble_eq_true rfl, Nat.le_of_ble_eq_true rfl⟩ (wsC_at0 _ _ _) rfl rfl (Nat.le_of_ble_eq_true rfl) ⟨Nat.le_of_ble_eq_true rfl, Nat.le_of_ble_eq_true rfl⟩ (fun v4 => ?_)
          refine G.aload_n E dX7_power_31 0 rfl rfl ?_
          refine G.iload E dX7_power_32 3 rfl ?_
          refine G.callVls (n := 1) (T := TX7) (N := 7) (C := RX7) (a := h 0) (q0 := 0) (As := [.int x4]) E dX7_power_34 (fun _ _ hv => c_X7_upperOfCurrent E.wf hv) gX7_power_X7_upperOfCurrent rfl rfl rfl (by decide +kernel) ⟨Nat.le_of_ble_eq_true rfl, Nat.le_of_ble_eq_true rfl⟩ (wsC_at0 _ _ _) rfl rfl (Nat.le_of_ble_eq_true rfl) ⟨Nat.le_of_ble_eq_true rfl, Nat.le_of_ble_eq_true rfl⟩ (fun v5 s6 => ?_)
          refine G.lmul E dX7_power_37 ?_
          refine G.ladd E dX7_power_38 ?_
          refine G.letL (fun v7 => ?_)
          refine G.lstore_n (lv' := [(2, .long v7), (0, .ref (h 0)), (1, .int x1), (4, .int x4)]) E dX7_power_39 rfl (by decide) rfl ?_
          refine G.loc [1, 2, 0, 3] rfl ?_
          exact hj40 v7 s6
noncomputable def f_X7_power (N : Nat) (σ : Wd) (a0 : Int32) : Option (Int64 × Wd) :=
  fl_X7_power_5 N a0 (fun v8 s9 =>
    bS (f_X7_countRest N s9) fun v10 s11 =>
    bP (f_X7_partOf N v8 v10 a0) fun v12 =>
    some (v12, s11)) N 0 0 σ
set_option maxHeartbeats 4000000 in
set_option maxRecDepth 100000 in
theorem c_X7_power {l : Launch} {D : va_G} {cy : Nat → ClassId} {h : Nat → Nat} {N : Nat} {σ : Wd} {a0 : Int32} {r : Int64} {σ1 : Wd} (hW : WF (wsC cy h) (adC h)) (hr : f_X7_power N σ a0 = some (r, σ1)) : Con l D cy (wsC cy h) (adC h) yX7_power wsX7_power rm_X7_power 0 0 [.ref (h 0), .int a0] (some (.long r)) σ σ1 := by
  refine Con.of (ρ := Int64 × Wd) (lv0 := [(0, .ref (h 0)), (1, .int a0)]) (σ := σ) (fun r : Int64 × Wd => some (.long r.1)) (fun r => r.2) (by decide) rfl rfl (Nat.le_of_ble_eq_true rfl) rfl hW hr (fun p e s m args below meth c E => ?_)
  unfold f_X7_power
  refine G.lconst (v := 0) E dX7_power_0 (by decide) ?_
  refine G.lstore_n (lv' := [(2, .long 0), (0, .ref (h 0)), (1, .int a0)]) E dX7_power_1 rfl (by decide) rfl ?_
  refine G.iconst (v := 0) E dX7_power_2 (by decide) ?_
  refine G.istore (lv' := [(4, .int 0), (2, .long 0), (0, .ref (h 0)), (1, .int a0)]) E dX7_power_3 (by decide) rfl ?_
  refine G.loc [2, 3, 1, 0] rfl ?_
  refine gl_X7_power_5 E (fun v8 s9 => ?_) N _ _ _
  refine G.lload_n E dX7_power_46 2 rfl rfl ?_
  refine G.aload_n E dX7_power_47 0 rfl rfl ?_
  refine G.callVls (n := 0) (T := TX7) (N := 7) (C := RX7) (a := h 0) (q0 := 0) (As := []) E dX7_power_48 (fun _ _ hv => c_X7_countRest E.wf hv) gX7_power_X7_countRest rfl rfl rfl (by decide +kernel) ⟨Nat.le_of_ble_eq_true rfl, Nat.le_of_ble_eq_true rfl⟩ (wsC_at0 _ _ _) rfl rfl (Nat.le_of_ble_eq_true rfl) ⟨Nat.le_of_ble_eq_true rfl, Nat.le_of_ble_eq_true rfl⟩ (fun v10 s11 => ?_)
  refine G.iload_n E dX7_power_51 1 rfl rfl ?_
  refine G.callSl (n := 3) (As := [.long v8, .long v10, .int a0]) E dX7_power_52 (fun _ hv => c_X7_partOf E.wf hv) gX7_power_X7_partOf rfl rfl rfl (by decide +kernel) ⟨Nat.le_of_ble_eq_true rfl, Nat.le_of_ble_eq_true rfl⟩ rfl (Nat.le_of_ble_eq_true rfl) ⟨Nat.le_of_ble_eq_true rfl, Nat.le_of_ble_eq_true rfl⟩ (fun v12 => ?_)
  exact G.lret E dX7_power_55 rfl rfl
end TR
