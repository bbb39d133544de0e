section TR
variable {p : Program} {l : Launch} {e : Env} {s : State} {m : MethodId} {args : Array Value} {below : List Frame} {meth : Method} {c : Code} {D : va_G} {cy : Nat → ClassId} {h : Nat → Nat}

abbrev rm_L_node : Room := { frames := 9, cells := 1, slots := 6, locals := 141 }
noncomputable def f_L_node (N : Nat) (σ : W3) (a1 : Int32) : Option (Int32 × W3) :=
  bH (lXC σ (f_X7_node N σ.1 a1)) (fun v1 s2 =>
    oS s2 0 (Int32.toInt64 v1) fun s3 =>
    some (0, s3)) (fun q s4 =>
    if q = 3 then (
      some (1, s4))
    else (
      none))
set_option maxHeartbeats 4000000 in
set_option maxRecDepth 100000 in
theorem c_L_node {l : Launch} {D : va_G} {cy : Nat → ClassId} {h : Nat → Nat} {N : Nat} {σ : W3} {a1 : Int32} {r : Int32} {σ1 : W3} (hW : WF (wsL cy h) (adL h)) (hfl : l.stackTraces = false) (hr : f_L_node N σ a1 = some (r, σ1)) : Con l D cy (wsL cy h) (adL h) yL_node wsL_node rm_L_node 1 6 [.ref (h 0), .int a1, .ref (h 71)] (some (.int r)) σ σ1 := by
  refine Con.ofH (ρ := Int32 × W3) (lv0 := [(0, .ref (h 0)), (1, .int a1), (2, .ref (h 71))]) (σ := σ) (mc := 1) (ms := 6) (fun r : Int32 × W3 => some (.int r.1)) (fun r => r.2) (by decide) rfl rfl (Nat.le_of_ble_eq_true rfl) rfl hW hr (fun p e s m args below meth c E htab => ?_)
  unfold f_L_node
  refine G.aload_n E dL_node_0 2 rfl rfl ?_
  refine G.iconst (v := 0) E dL_node_1 (by decide) ?_
  refine G.aload_n E dL_node_2 0 rfl rfl ?_
  refine G.iload_n E dL_node_3 1 rfl rfl ?_
  refine G.callHi (mc1 := 1) (ms1 := 6) (rm := rm_X7_node) (n := 1) (T := TX7) (N := 7) (C := RX7) (a := h 0) (q0 := 0) (As := [.int a1]) E dL_node_4 (fun r hr => ?_) gL_node_X7_node rfl rfl rfl (by decide +kernel) ⟨(Nat.le_of_ble_eq_true rfl), (Nat.le_of_ble_eq_true rfl)⟩ ((wsL_at0 _ _ _).trans (wsC_at0 _ _ _)) rfl rfl (Nat.le_of_ble_eq_true rfl) ⟨Nat.le_of_ble_eq_true rfl, Nat.le_of_ble_eq_true rfl⟩ (fun v1 s2 => ?_) (fun q s4 => ?_)
  · obtain ⟨r1, hr1, rfl⟩ := lXC_some hr
    exact ConX.inC E.wf (c_X7_node (wfL_C E.wf) hfl hr1)
  · refine G.i2l E dL_node_7 ?_
    refine G.oast (q0 := 71) E dL_node_8 (wsL_at71 _ _ _) (fun f => wsL_setO _ _ _ f) (fun s3 => ?_)
    refine G.goto (tgt := 15) E dL_node_9 (by decide) ?_
    refine G.iconst (v := 0) E dL_node_15 (by decide) ?_
    exact G.iret E dL_node_16 rfl rfl
  · refine GX.on (fun hq => ?_) (fun hq => ?_)
    · subst hq
      refine GX.catch (name := "java/lang/IllegalStateException") E htab [] ⟨0, 9, 12, 13⟩ [] rfl (fun z hz => nomatch hz) (by decide) (by decide) (List.mem_of_getElem? (i := 1) rfl) (by decide +kernel) (fun a => ?_)
      refine G.astore_n (lv' := [(3, .ref a), (0, .ref (h 0)), (1, .int a1), (2, .ref (h 71))]) E dL_node_12 rfl (by decide) rfl ?_
      refine G.iconst (v := 1) E dL_node_13 (by decide) ?_
      exact G.iret E dL_node_14 rfl rfl
    · exact GX.no
abbrev rm_L_wire : Room := { frames := 10, cells := 3, slots := 18, locals := 164 }
noncomputable def f_L_wire (N : Nat) (σ : W3) (a1 : Int32) (a2 : Int32) (a3 : Int32) : Option (Int32 × W3) :=
  bH (lXC σ (f_X7_wire N σ.1 a1 a2 a3)) (fun v1 s2 =>
    oS s2 0 (Int32.toInt64 v1) fun s3 =>
    some (0, s3)) (fun q s4 =>
    if q = 1 then (
      some (1, s4))
    else (
      if q = 2 then (
        some (2, s4))
      else (
        if q = 3 then (
          some (3, s4))
        else (
          none))))
set_option maxHeartbeats 4000000 in
set_option maxRecDepth 100000 in
theorem c_L_wire {l : Launch} {D : va_G} {cy : Nat → ClassId} {h : Nat → Nat} {N : Nat} {σ : W3} {a1 : Int32} {a2 : Int32} {a3 : Int32} {r : Int32} {σ1 : W3} (hW : WF (wsL cy h) (adL h)) (hfl : l.stackTraces = false) (hr : f_L_wire N σ a1 a2 a3 = some (r, σ1)) : Con l D cy (wsL cy h) (adL h) yL_wire wsL_wire rm_L_wire 3 18 [.ref (h 0), .int a1, .int a2, .int a3, .ref (h 71)] (some (.int r)) σ σ1 := by
  refine Con.ofH (ρ := Int32 × W3) (lv0 := [(0, .ref (h 0)), (1, .int a1), (2, .int a2), (3, .int a3), (4, .ref (h 71))]) (σ := σ) (mc := 3) (ms := 18) (fun r : Int32 × W3 => some (.int r.1)) (fun r => r.2) (by decide) rfl rfl (Nat.le_of_ble_eq_true rfl) rfl hW hr (fun p e s m args below meth c E htab => ?_)
  unfold f_L_wire
  refine G.aload E dL_wire_0 4 rfl ?_
  refine G.iconst (v := 0) E dL_wire_2 (by decide) ?_
  refine G.aload_n E dL_wire_3 0 rfl rfl ?_
  refine G.iload_n E dL_wire_4 1 rfl rfl ?_
  refine G.iload_n E dL_wire_5 2 rfl rfl ?_
  refine G.iload_n E dL_wire_6 3 rfl rfl ?_
  refine G.callHi (mc1 := 3) (ms1 := 18) (rm := rm_X7_wire) (n := 3) (T := TX7) (N := 7) (C := RX7) (a := h 0) (q0 := 0) (As := [.int a1, .int a2, .int a3]) E dL_wire_7 (fun r hr => ?_) gL_wire_X7_wire rfl rfl rfl (by decide +kernel) ⟨(Nat.le_of_ble_eq_true rfl), (Nat.le_of_ble_eq_true rfl)⟩ ((wsL_at0 _ _ _).trans (wsC_at0 _ _ _)) rfl rfl (Nat.le_of_ble_eq_true rfl) ⟨Nat.le_of_ble_eq_true rfl, Nat.le_of_ble_eq_true rfl⟩ (fun v1 s2 => ?_) (fun q s4 => ?_)
  · obtain ⟨r1, hr1, rfl⟩ := lXC_some hr
    exact ConX.inC E.wf (c_X7_wire (wfL_C E.wf) hfl hr1)
  · refine G.i2l E dL_wire_10 ?_
    refine G.oast (q0 := 71) E dL_wire_11 (wsL_at71 _ _ _) (fun f => wsL_setO _ _ _ f) (fun s3 => ?_)
    refine G.goto (tgt := 27) E dL_wire_12 (by decide) ?_
    refine G.iconst (v := 0) E dL_wire_27 (by decide) ?_
    exact G.iret E dL_wire_28 rfl rfl
  · refine GX.on (fun hq => ?_) (fun hq => ?_)
    · subst hq
      refine GX.catch (name := "java/lang/IndexOutOfBoundsException") E htab [] ⟨0, 12, 15, 19⟩ [⟨0, 12, 19, 21⟩, ⟨0, 12, 23, 13⟩] rfl (fun z hz => nomatch hz) (by decide) (by decide) (List.mem_of_getElem? (i := 1) rfl) (by decide +kernel) (fun a => ?_)
      refine G.astore (lv' := [(5, .ref a), (0, .ref (h 0)), (1, .int a1), (2, .int a2), (3, .int a3), (4, .ref (h 71))]) E dL_wire_15 (by decide) rfl ?_
      refine G.iconst (v := 1) E dL_wire_17 (by decide) ?_
      exact G.iret E dL_wire_18 rfl rfl
    · refine GX.on (fun hq => ?_) (fun hq => ?_)
      · subst hq
        refine GX.catch (name := "java/lang/IllegalArgumentException") E htab [⟨0, 12, 15, 19⟩] ⟨0, 12, 19, 21⟩ [⟨0, 12, 23, 13⟩] rfl (fun z hz => by cases List.mem_singleton.mp hz; exact ⟨by decide, "java/lang/IndexOutOfBoundsException", (List.mem_of_getElem? (i := 1) rfl), by decide +kernel⟩) (by decide) (by decide) (List.mem_of_getElem? (i := 2) rfl) (by decide +kernel) (fun a => ?_)
        refine G.astore (lv' := [(5, .ref a), (0, .ref (h 0)), (1, .int a1), (2, .int a2), (3, .int a3), (4, .ref (h 71))]) E dL_wire_19 (by decide) rfl ?_
        refine G.iconst (v := 2) E dL_wire_21 (by decide) ?_
        exact G.iret E dL_wire_22 rfl rfl
      · refine GX.on (fun hq => ?_) (fun hq => ?_)
        · subst hq
          refine GX.catch (name := "java/lang/IllegalStateException") E htab [⟨0, 12, 15, 19⟩, ⟨0, 12, 19, 21⟩] ⟨0, 12, 23, 13⟩ [] rfl (fun z hz => by simp only [List.mem_cons, List.not_mem_nil, or_false] at hz; rcases hz with rfl | rfl; exact ⟨by decide, "java/lang/IndexOutOfBoundsException", (List.mem_of_getElem? (i := 1) rfl), by decide +kernel⟩; exact ⟨by decide, "java/lang/IllegalArgumentException", (List.mem_of_getElem? (i := 2) rfl), by decide +kernel⟩) (by decide) (by decide) (List.mem_of_getElem? (i := 3) rfl) (by decide +kernel) (fun a => ?_)
          refine G.astore (lv' := [(5, .ref a), (0, .ref (h 0)), (1, .int a1), (2, .int a2), (3, .int a3), (4, .ref (h 71))]) E dL_wire_23 (by decide) rfl ?_
          refine G.iconst (v := 3) E dL_wire_25 (by decide) ?_
          exact G.iret E dL_wire_26 rfl rfl
        · exact GX.no
abbrev rm_L_wireIs : Room := { frames := 10, cells := 2, slots := 12, locals := 163 }
noncomputable def f_L_wireIs (N : Nat) (σ : W3) (a1 : Int32) (a2 : Int32) : Option (Int32 × W3) :=
  bH (lXC σ (f_X7_wireIs N σ.1 a1 a2)) (fun v1 s2 =>
    oS s2 0 (Int32.toInt64 v1) fun s3 =>
    some (0, s3)) (fun q s4 =>
    if q = 1 then (
      some (1, s4))
    else (
      if q = 2 then (
        some (2, s4))
      else (
        none)))
set_option maxHeartbeats 4000000 in
set_option maxRecDepth 100000 in
theorem c_L_wireIs {l : Launch} {D : va_G} {cy : Nat → ClassId} {h : Nat → Nat} {N : Nat} {σ : W3} {a1 : Int32} {a2 : Int32} {r : Int32} {σ1 : W3} (hW : WF (wsL cy h) (adL h)) (hfl : l.stackTraces = false) (hr : f_L_wireIs N σ a1 a2 = some (r, σ1)) : Con l D cy (wsL cy h) (adL h) yL_wireIs wsL_wireIs rm_L_wireIs 2 12 [.ref (h 0), .int a1, .int a2, .ref (h 71)] (some (.int r)) σ σ1 := by
  refine Con.ofH (ρ := Int32 × W3) (lv0 := [(0, .ref (h 0)), (1, .int a1), (2, .int a2), (3, .ref (h 71))]) (σ := σ) (mc := 2) (ms := 12) (fun r : Int32 × W3 => some (.int r.1)) (fun r => r.2) (by decide) rfl rfl (Nat.le_of_ble_eq_true rfl) rfl hW hr (fun p e s m args below meth c E htab => ?_)
  unfold f_L_wireIs
  refine G.aload_n E dL_wireIs_0 3 rfl rfl ?_
  refine G.iconst (v := 0) E dL_wireIs_1 (by decide) ?_
  refine G.aload_n E dL_wireIs_2 0 rfl rfl ?_
  refine G.iload_n E dL_wireIs_3 1 rfl rfl ?_
  refine G.iload_n E dL_wireIs_4 2 rfl rfl ?_
  refine G.callHi (mc1 := 2) (ms1 := 12) (rm := rm_X7_wireIs) (n := 2) (T := TX7) (N := 7) (C := RX7) (a := h 0) (q0 := 0) (As := [.int a1, .int a2]) E dL_wireIs_5 (fun r hr => ?_) gL_wireIs_X7_wireIs rfl rfl rfl (by decide +kernel) ⟨(Nat.le_of_ble_eq_true rfl), (Nat.le_of_ble_eq_true rfl)⟩ ((wsL_at0 _ _ _).trans (wsC_at0 _ _ _)) rfl rfl (Nat.le_of_ble_eq_true rfl) ⟨Nat.le_of_ble_eq_true rfl, Nat.le_of_ble_eq_true rfl⟩ (fun v1 s2 => ?_) (fun q s4 => ?_)
  · obtain ⟨r1, hr1, rfl⟩ := lXC_some hr
    exact ConX.inC E.wf (c_X7_wireIs (wfL_C E.wf) hfl hr1)
  · refine G.i2l E dL_wireIs_8 ?_
    refine G.oast (q0 := 71) E dL_wireIs_9 (wsL_at71 _ _ _) (fun f => wsL_setO _ _ _ f) (fun s3 => ?_)
    refine G.goto (tgt := 21) E dL_wireIs_10 (by decide) ?_
    refine G.iconst (v := 0) E dL_wireIs_21 (by decide) ?_
    exact G.iret E dL_wireIs_22 rfl rfl
  · refine GX.on (fun hq => ?_) (fun hq => ?_)
    · subst hq
      refine GX.catch (name := "java/lang/IndexOutOfBoundsException") E htab [] ⟨0, 10, 13, 19⟩ [⟨0, 10, 17, 21⟩] rfl (fun z hz => nomatch hz) (by decide) (by decide) (List.mem_of_getElem? (i := 1) rfl) (by decide +kernel) (fun a => ?_)
      refine G.astore (lv' := [(4, .ref a), (0, .ref (h 0)), (1, .int a1), (2, .int a2), (3, .ref (h 71))]) E dL_wireIs_13 (by decide) rfl ?_
      refine G.iconst (v := 1) E dL_wireIs_15 (by decide) ?_
      exact G.iret E dL_wireIs_16 rfl rfl
    · refine GX.on (fun hq => ?_) (fun hq => ?_)
      · subst hq
        refine GX.catch (name := "java/lang/IllegalArgumentException") E htab [⟨0, 10, 13, 19⟩] ⟨0, 10, 17, 21⟩ [] rfl (fun z hz => by cases List.mem_singleton.mp hz; exact ⟨by decide, "java/lang/IndexOutOfBoundsException", (List.mem_of_getElem? (i := 1) rfl), by decide +kernel⟩) (by decide) (by decide) (List.mem_of_getElem? (i := 2) rfl) (by decide +kernel) (fun a => ?_)
        refine G.astore (lv' := [(4, .ref a), (0, .ref (h 0)), (1, .int a1), (2, .int a2), (3, .ref (h 71))]) E dL_wireIs_17 (by decide) rfl ?_
        refine G.iconst (v := 2) E dL_wireIs_19 (by decide) ?_
        exact G.iret E dL_wireIs_20 rfl rfl
      · exact GX.no
abbrev rm_L_tree : Room := { frames := 15, cells := 1, slots := 6, locals := 367 }
noncomputable def f_L_tree (N : Nat) (σ : W3) (a1 : Int32) : Option (Int32 × W3) :=
  bH (lXC σ (f_X7_tree N σ.1 a1)) (fun v1 s2 =>
    oS s2 0 (Int32.toInt64 v1) fun s3 =>
    some (0, s3)) (fun q s4 =>
    if q = 2 then (
      some (1, s4))
    else (
      none))
set_option maxHeartbeats 4000000 in
set_option maxRecDepth 100000 in
theorem c_L_tree {l : Launch} {D : va_G} {cy : Nat → ClassId} {h : Nat → Nat} {N : Nat} {σ : W3} {a1 : Int32} {r : Int32} {σ1 : W3} (hW : WF (wsL cy h) (adL h)) (hfl : l.stackTraces = false) (hr : f_L_tree N σ a1 = some (r, σ1)) : Con l D cy (wsL cy h) (adL h) yL_tree wsL_tree rm_L_tree 1 6 [.ref (h 0), .int a1, .ref (h 71)] (some (.int r)) σ σ1 := by
  refine Con.ofH (ρ := Int32 × W3) (lv0 := [(0, .ref (h 0)), (1, .int a1), (2, .ref (h 71))]) (σ := σ) (mc := 1) (ms := 6) (fun r : Int32 × W3 => some (.int r.1)) (fun r => r.2) (by decide) rfl rfl (Nat.le_of_ble_eq_true rfl) rfl hW hr (fun p e s m args below meth c E htab => ?_)
  unfold f_L_tree
  refine G.aload_n E dL_tree_0 2 rfl rfl ?_
  refine G.iconst (v := 0) E dL_tree_1 (by decide) ?_
  refine G.aload_n E dL_tree_2 0 rfl rfl ?_
  refine G.iload_n E dL_tree_3 1 rfl rfl ?_
  refine G.callHi (mc1 := 1) (ms1 := 6) (rm := rm_X7_tree) (n := 1) (T := TX7) (N := 7) (C := RX7) (a := h 0) (q0 := 0) (As := [.int a1]) E dL_tree_4 (fun r hr => ?_) gL_tree_X7_tree rfl rfl rfl (by decide +kernel) ⟨(Nat.le_of_ble_eq_true rfl), (Nat.le_of_ble_eq_true rfl)⟩ ((wsL_at0 _ _ _).trans (wsC_at0 _ _ _)) rfl rfl (Nat.le_of_ble_eq_true rfl) ⟨Nat.le_of_ble_eq_true rfl, Nat.le_of_ble_eq_true rfl⟩ (fun v1 s2 => ?_) (fun q s4 => ?_)
  · obtain ⟨r1, hr1, rfl⟩ := lXC_some hr
    exact ConX.inC E.wf (c_X7_tree (wfL_C E.wf) hfl hr1)
  · refine G.i2l E dL_tree_7 ?_
    refine G.oast (q0 := 71) E dL_tree_8 (wsL_at71 _ _ _) (fun f => wsL_setO _ _ _ f) (fun s3 => ?_)
    refine G.goto (tgt := 15) E dL_tree_9 (by decide) ?_
    refine G.iconst (v := 0) E dL_tree_15 (by decide) ?_
    exact G.iret E dL_tree_16 rfl rfl
  · refine GX.on (fun hq => ?_) (fun hq => ?_)
    · subst hq
      refine GX.catch (name := "java/lang/IllegalArgumentException") E htab [] ⟨0, 9, 12, 21⟩ [] rfl (fun z hz => nomatch hz) (by decide) (by decide) (List.mem_of_getElem? (i := 1) rfl) (by decide +kernel) (fun a => ?_)
      refine G.astore_n (lv' := [(3, .ref a), (0, .ref (h 0)), (1, .int a1), (2, .ref (h 71))]) E dL_tree_12 rfl (by decide) rfl ?_
      refine G.iconst (v := 1) E dL_tree_13 (by decide) ?_
      exact G.iret E dL_tree_14 rfl rfl
    · exact GX.no
abbrev rm_L_answer : Room := { frames := 17, cells := 3, slots := 18, locals := 422 }
noncomputable def f_L_answer (N : Nat) (σ : W3) (a1 : Int32) (a2 : Int32) (a3 : Int32) : Option (Int32 × W3) :=
  bH (lXC σ (f_X7_answer N σ.1 a1 a2 a3)) (fun v1 s2 =>
    oS s2 0 v1 fun s3 =>
    some (0, s3)) (fun q s4 =>
    if q = 1 then (
      some (1, s4))
    else (
      if q = 2 then (
        some (2, s4))
      else (
        none)))
set_option maxHeartbeats 4000000 in
set_option maxRecDepth 100000 in
theorem c_L_answer {l : Launch} {D : va_G} {cy : Nat → ClassId} {h : Nat → Nat} {N : Nat} {σ : W3} {a1 : Int32} {a2 : Int32} {a3 : Int32} {r : Int32} {σ1 : W3} (hW : WF (wsL cy h) (adL h)) (hfl : l.stackTraces = false) (hr : f_L_answer N σ a1 a2 a3 = some (r, σ1)) : Con l D cy (wsL cy h) (adL h) yL_answer wsL_answer rm_L_answer 3 18 [.ref (h 0), .int a1, .int a2, .int a3, .ref (h 71)] (some (.int r)) σ σ1 := by
  refine Con.ofH (ρ := Int32 × W3) (lv0 := [(0, .ref (h 0)), (1, .int a1), (2, .int a2), (3, .int a3), (4, .ref (h 71))]) (σ := σ) (mc := 3) (ms := 18) (fun r : Int32 × W3 => some (.int r.1)) (fun r => r.2) (by decide) rfl rfl (Nat.le_of_ble_eq_true rfl) rfl hW hr (fun p e s m args below meth c E htab => ?_)
  unfold f_L_answer
  refine G.aload E dL_answer_0 4 rfl ?_
  refine G.iconst (v := 0) E dL_answer_2 (by decide) ?_
  refine G.aload_n E dL_answer_3 0 rfl rfl ?_
  refine G.iload_n E dL_answer_4 1 rfl rfl ?_
  refine G.iload_n E dL_answer_5 2 rfl rfl ?_
  refine G.iload_n E dL_answer_6 3 rfl rfl ?_
  refine G.callHl (mc1 := 3) (ms1 := 18) (rm := rm_X7_answer) (n := 3) (T := TX7) (N := 7) (C := RX7) (a := h 0) (q0 := 0) (As := [.int a1, .int a2, .int a3]) E dL_answer_7 (fun r hr => ?_) gL_answer_X7_answer rfl rfl rfl (by decide +kernel) ⟨(Nat.le_of_ble_eq_true rfl), (Nat.le_of_ble_eq_true rfl)⟩ ((wsL_at0 _ _ _).trans (wsC_at0 _ _ _)) rfl rfl (Nat.le_of_ble_eq_true rfl) ⟨Nat.le_of_ble_eq_true rfl, Nat.le_of_ble_eq_true rfl⟩ (fun v1 s2 => ?_) (fun q s4 => ?_)
  · obtain ⟨r1, hr1, rfl⟩ := lXC_some hr
    exact ConX.inC E.wf (c_X7_answer (wfL_C E.wf) hfl hr1)
  · refine G.oast (q0 := 71) E dL_answer_10 (wsL_at71 _ _ _) (fun f => wsL_setO _ _ _ f) (fun s3 => ?_)
    refine G.goto (tgt := 22) E dL_answer_11 (by decide) ?_
    refine G.iconst (v := 0) E dL_answer_22 (by decide) ?_
    exact G.iret E dL_answer_23 rfl rfl
  · refine GX.on (fun hq => ?_) (fun hq => ?_)
    · subst hq
      refine GX.catch (name := "java/lang/IndexOutOfBoundsException") E htab [] ⟨0, 11, 14, 19⟩ [⟨0, 11, 18, 21⟩] rfl (fun z hz => nomatch hz) (by decide) (by decide) (List.mem_of_getElem? (i := 1) rfl) (by decide +kernel) (fun a => ?_)
      refine G.astore (lv' := [(5, .ref a), (0, .ref (h 0)), (1, .int a1), (2, .int a2), (3, .int a3), (4, .ref (h 71))]) E dL_answer_14 (by decide) rfl ?_
      refine G.iconst (v := 1) E dL_answer_16 (by decide) ?_
      exact G.iret E dL_answer_17 rfl rfl
    · refine GX.on (fun hq => ?_) (fun hq => ?_)
      · subst hq
        refine GX.catch (name := "java/lang/IllegalArgumentException") E htab [⟨0, 11, 14, 19⟩] ⟨0, 11, 18, 21⟩ [] rfl (fun z hz => by cases List.mem_singleton.mp hz; exact ⟨by decide, "java/lang/IndexOutOfBoundsException", (List.mem_of_getElem? (i := 1) rfl), by decide +kernel⟩) (by decide) (by decide) (List.mem_of_getElem? (i := 2) rfl) (by decide +kernel) (fun a => ?_)
        refine G.astore (lv' := [(5, .ref a), (0, .ref (h 0)), (1, .int a1), (2, .int a2), (3, .int a3), (4, .ref (h 71))]) E dL_answer_18 (by decide) rfl ?_
        refine G.iconst (v := 2) E dL_answer_20 (by decide) ?_
        exact G.iret E dL_answer_21 rfl rfl
      · exact GX.no
abbrev rm_L_value : Room := { frames := 10, cells := 2, slots := 12, locals := 163 }
noncomputable def f_L_value (N : Nat) (σ : W3) (a1 : Int32) (a2 : Int32) : Option (Int32 × W3) :=
  bH (lXC σ (f_X7_value N σ.1 a1 a2)) (fun v1 s2 =>
    some (0, s2)) (fun q s3 =>
    if q = 1 then (
      some (1, s3))
    else (
      if q = 2 then (
        some (2, s3))
      else (
        none)))
set_option maxHeartbeats 4000000 in
set_option maxRecDepth 100000 in
theorem c_L_value {l : Launch} {D : va_G} {cy : Nat → ClassId} {h : Nat → Nat} {N : Nat} {σ : W3} {a1 : Int32} {a2 : Int32} {r : Int32} {σ1 : W3} (hW : WF (wsL cy h) (adL h)) (hfl : l.stackTraces = false) (hr : f_L_value N σ a1 a2 = some (r, σ1)) : Con l D cy (wsL cy h) (adL h) yL_value wsL_value rm_L_value 2 12 [.ref (h 0), .int a1, .int a2] (some (.int r)) σ σ1 := by
  refine Con.ofH (ρ := Int32 × W3) (lv0 := [(0, .ref (h 0)), (1, .int a1), (2, .int a2)]) (σ := σ) (mc := 2) (ms := 12) (fun r : Int32 × W3 => some (.int r.1)) (fun r => r.2) (by decide) rfl rfl (Nat.le_of_ble_eq_true rfl) rfl hW hr (fun p e s m args below meth c E htab => ?_)
  unfold f_L_value
  refine G.aload_n E dL_value_0 0 rfl rfl ?_
  refine G.iload_n E dL_value_1 1 rfl rfl ?_
  refine G.iload_n E dL_value_2 2 rfl rfl ?_
  refine G.callHv (mc1 := 2) (ms1 := 12) (rm := rm_X7_value) (n := 2) (T := TX7) (N := 7) (C := RX7) (a := h 0) (q0 := 0) (As := [.int a1, .int a2]) E dL_value_3 (fun r hr => ?_) gL_value_X7_value rfl rfl rfl (by decide +kernel) ⟨(Nat.le_of_ble_eq_true rfl), (Nat.le_of_ble_eq_true rfl)⟩ ((wsL_at0 _ _ _).trans (wsC_at0 _ _ _)) rfl rfl (Nat.le_of_ble_eq_true rfl) ⟨Nat.le_of_ble_eq_true rfl, Nat.le_of_ble_eq_true rfl⟩ (fun v1 s2 => ?_) (fun q s3 => ?_)
  · obtain ⟨r1, hr1, rfl⟩ := lXC_some hr
    exact ConX.inC E.wf (c_X7_value (wfL_C E.wf) hfl hr1)
  · refine G.goto (tgt := 15) E dL_value_6 (by decide) ?_
    refine G.iconst (v := 0) E dL_value_15 (by decide) ?_
    exact G.iret E dL_value_16 rfl rfl
  · refine GX.on (fun hq => ?_) (fun hq => ?_)
    · subst hq
      refine GX.catch (name := "java/lang/IndexOutOfBoundsException") E htab [] ⟨0, 6, 9, 19⟩ [⟨0, 6, 12, 21⟩] rfl (fun z hz => nomatch hz) (by decide) (by decide) (List.mem_of_getElem? (i := 1) rfl) (by decide +kernel) (fun a => ?_)
      refine G.astore_n (lv' := [(3, .ref a), (0, .ref (h 0)), (1, .int a1), (2, .int a2)]) E dL_value_9 rfl (by decide) rfl ?_
      refine G.iconst (v := 1) E dL_value_10 (by decide) ?_
      exact G.iret E dL_value_11 rfl rfl
    · refine GX.on (fun hq => ?_) (fun hq => ?_)
      · subst hq
        refine GX.catch (name := "java/lang/IllegalArgumentException") E htab [⟨0, 6, 9, 19⟩] ⟨0, 6, 12, 21⟩ [] rfl (fun z hz => by cases List.mem_singleton.mp hz; exact ⟨by decide, "java/lang/IndexOutOfBoundsException", (List.mem_of_getElem? (i := 1) rfl), by decide +kernel⟩) (by decide) (by decide) (List.mem_of_getElem? (i := 2) rfl) (by decide +kernel) (fun a => ?_)
        refine G.astore_n (lv' := [(3, .ref a), (0, .ref (h 0)), (1, .int a1), (2, .int a2)]) E dL_value_12 rfl (by decide) rfl ?_
        refine G.iconst (v := 2) E dL_value_13 (by decide) ?_
        exact G.iret E dL_value_14 rfl rfl
      · exact GX.no
abbrev rm_L_potential : Room := { frames := 17, cells := 1, slots := 6, locals := 421 }
noncomputable def f_L_potential (N : Nat) (σ : W3) (a1 : Int32) (a2 : Int32) : Option (Int32 × W3) :=
  bH (lXC σ (f_X7_potential N σ.1 a1 a2)) (fun v1 s2 =>
    oS s2 0 v1 fun s3 =>
    some (0, s3)) (fun q s4 =>
    if q = 1 then (
      some (1, s4))
    else (
      none))
set_option maxHeartbeats 4000000 in
set_option maxRecDepth 100000 in
theorem c_L_potential {l : Launch} {D : va_G} {cy : Nat → ClassId} {h : Nat → Nat} {N : Nat} {σ : W3} {a1 : Int32} {a2 : Int32} {r : Int32} {σ1 : W3} (hW : WF (wsL cy h) (adL h)) (hfl : l.stackTraces = false) (hr : f_L_potential N σ a1 a2 = some (r, σ1)) : Con l D cy (wsL cy h) (adL h) yL_potential wsL_potential rm_L_potential 1 6 [.ref (h 0), .int a1, .int a2, .ref (h 71)] (some (.int r)) σ σ1 := by
  refine Con.ofH (ρ := Int32 × W3) (lv0 := [(0, .ref (h 0)), (1, .int a1), (2, .int a2), (3, .ref (h 71))]) (σ := σ) (mc := 1) (ms := 6) (fun r : Int32 × W3 => some (.int r.1)) (fun r => r.2) (by decide) rfl rfl (Nat.le_of_ble_eq_true rfl) rfl hW hr (fun p e s m args below meth c E htab => ?_)
  unfold f_L_potential
  refine G.aload_n E dL_potential_0 3 rfl rfl ?_
  refine G.iconst (v := 0) E dL_potential_1 (by decide) ?_
  refine G.aload_n E dL_potential_2 0 rfl rfl ?_
  refine G.iload_n E dL_potential_3 1 rfl rfl ?_
  refine G.iload_n E dL_potential_4 2 rfl rfl ?_
  refine G.callHl (mc1 := 1) (ms1 := 6) (rm := rm_X7_potential) (n := 2) (T := TX7) (N := 7) (C := RX7) (a := h 0) (q0 := 0) (As := [.int a1, .int a2]) E dL_potential_5 (fun r hr => ?_) gL_potential_X7_potential rfl rfl rfl (by decide +kernel) ⟨(Nat.le_of_ble_eq_true rfl), (Nat.le_of_ble_eq_true rfl)⟩ ((wsL_at0 _ _ _).trans (wsC_at0 _ _ _)) rfl rfl (Nat.le_of_ble_eq_true rfl) ⟨Nat.le_of_ble_eq_true rfl, Nat.le_of_ble_eq_true rfl⟩ (fun v1 s2 => ?_) (fun q s4 => ?_)
  · obtain ⟨r1, hr1, rfl⟩ := lXC_some hr
    exact ConX.inC E.wf (c_X7_potential (wfL_C E.wf) hfl hr1)
  · refine G.oast (q0 := 71) E dL_potential_8 (wsL_at71 _ _ _) (fun f => wsL_setO _ _ _ f) (fun s3 => ?_)
    refine G.goto (tgt := 16) E dL_potential_9 (by decide) ?_
    refine G.iconst (v := 0) E dL_potential_16 (by decide) ?_
    exact G.iret E dL_potential_17 rfl rfl
  · refine GX.on (fun hq => ?_) (fun hq => ?_)
    · subst hq
      refine GX.catch (name := "java/lang/IndexOutOfBoundsException") E htab [] ⟨0, 9, 12, 19⟩ [] rfl (fun z hz => nomatch hz) (by decide) (by decide) (List.mem_of_getElem? (i := 1) rfl) (by decide +kernel) (fun a => ?_)
      refine G.astore (lv' := [(4, .ref a), (0, .ref (h 0)), (1, .int a1), (2, .int a2), (3, .ref (h 71))]) E dL_potential_12 (by decide) rfl ?_
      refine G.iconst (v := 1) E dL_potential_14 (by decide) ?_
      exact G.iret E dL_potential_15 rfl rfl
    · exact GX.no
abbrev rm_L_current : Room := { frames := 17, cells := 1, slots := 6, locals := 426 }
noncomputable def f_L_current (N : Nat) (σ : W3) (a1 : Int32) (a2 : Int32) : Option (Int32 × W3) :=
  bH (lXC σ (f_X7_current N σ.1 a1 a2)) (fun v1 s2 =>
    oS s2 0 v1 fun s3 =>
    some (0, s3)) (fun q s4 =>
    if q = 1 then (
      some (1, s4))
    else (
      none))
set_option maxHeartbeats 4000000 in
set_option maxRecDepth 100000 in
theorem c_L_current {l : Launch} {D : va_G} {cy : Nat → ClassId} {h : Nat → Nat} {N : Nat} {σ : W3} {a1 : Int32} {a2 : Int32} {r : Int32} {σ1 : W3} (hW : WF (wsL cy h) (adL h)) (hfl : l.stackTraces = false) (hr : f_L_current N σ a1 a2 = some (r, σ1)) : Con l D cy (wsL cy h) (adL h) yL_current wsL_current rm_L_current 1 6 [.ref (h 0), .int a1, .int a2, .ref (h 71)] (some (.int r)) σ σ1 := by
  refine Con.ofH (ρ := Int32 × W3) (lv0 := [(0, .ref (h 0)), (1, .int a1), (2, .int a2), (3, .ref (h 71))]) (σ := σ) (mc := 1) (ms := 6) (fun r : Int32 × W3 => some (.int r.1)) (fun r => r.2) (by decide) rfl rfl (Nat.le_of_ble_eq_true rfl) rfl hW hr (fun p e s m args below meth c E htab => ?_)
  unfold f_L_current
  refine G.aload_n E dL_current_0 3 rfl rfl ?_
  refine G.iconst (v := 0) E dL_current_1 (by decide) ?_
  refine G.aload_n E dL_current_2 0 rfl rfl ?_
  refine G.iload_n E dL_current_3 1 rfl rfl ?_
  refine G.iload_n E dL_current_4 2 rfl rfl ?_
  refine G.callHl (mc1 := 1) (ms1 := 6) (rm := rm_X7_current) (n := 2) (T := TX7) (N := 7) (C := RX7) (a := h 0) (q0 := 0) (As := [.int a1, .int a2]) E dL_current_5 (fun r hr => ?_) gL_current_X7_current rfl rfl rfl (by decide +kernel) ⟨(Nat.le_of_ble_eq_true rfl), (Nat.le_of_ble_eq_true rfl)⟩ ((wsL_at0 _ _ _).trans (wsC_at0 _ _ _)) rfl rfl (Nat.le_of_ble_eq_true rfl) ⟨Nat.le_of_ble_eq_true rfl, Nat.le_of_ble_eq_true rfl⟩ (fun v1 s2 => ?_) (fun q s4 => ?_)
  · obtain ⟨r1, hr1, rfl⟩ := lXC_some hr
    exact ConX.inC E.wf (c_X7_current (wfL_C E.wf) hfl hr1)
  · refine G.oast (q0 := 71) E dL_current_8 (wsL_at71 _ _ _) (fun f => wsL_setO _ _ _ f) (fun s3 => ?_)
    refine G.goto (tgt := 16) E dL_current_9 (by decide) ?_
    refine G.iconst (v := 0) E dL_current_16 (by decide) ?_
    exact G.iret E dL_current_17 rfl rfl
  · refine GX.on (fun hq => ?_) (fun hq => ?_)
    · subst hq
      refine GX.catch (name := "java/lang/IndexOutOfBoundsException") E htab [] ⟨0, 9, 12, 19⟩ [] rfl (fun z hz => nomatch hz) (by decide) (by decide) (List.mem_of_getElem? (i := 1) rfl) (by decide +kernel) (fun a => ?_)
      refine G.astore (lv' := [(4, .ref a), (0, .ref (h 0)), (1, .int a1), (2, .int a2), (3, .ref (h 71))]) E dL_current_12 (by decide) rfl ?_
      refine G.iconst (v := 1) E dL_current_14 (by decide) ?_
      exact G.iret E dL_current_15 rfl rfl
    · exact GX.no
abbrev rm_L_distance : Room := { frames := 17, cells := 2, slots := 12, locals := 423 }
noncomputable def f_L_distance (N : Nat) (σ : W3) (a1 : Int32) (a2 : Int32) (a3 : Int32) : Option (Int32 × W3) :=
  bH (lXC σ (f_X7_distance N σ.1 a1 a2 a3)) (fun v1 s2 =>
    oS s2 0 v1 fun s3 =>
    some (0, s3)) (fun q s4 =>
    if q = 1 then (
      some (1, s4))
    else (
      none))
set_option maxHeartbeats 4000000 in
set_option maxRecDepth 100000 in
theorem c_L_distance {l : Launch} {D : va_G} {cy : Nat → ClassId} {h : Nat → Nat} {N : Nat} {σ : W3} {a1 : Int32} {a2 : Int32} {a3 : Int32} {r : Int32} {σ1 : W3} (hW : WF (wsL cy h) (adL h)) (hfl : l.stackTraces = false) (hr : f_L_distance N σ a1 a2 a3 = some (r, σ1)) : Con l D cy (wsL cy h) (adL h) yL_distance wsL_distance rm_L_distance 2 12 [.ref (h 0), .int a1, .int a2, .int a3, .ref (h 71)] (some (.int r)) σ σ1 := by
  refine Con.ofH (ρ := Int32 × W3) (lv0 := [(0, .ref (h 0)), (1, .int a1), (2, .int a2), (3, .int a3), (4, .ref (h 71))]) (σ := σ) (mc := 2) (ms := 12) (fun r : Int32 × W3 => some (.int r.1)) (fun r => r.2) (by decide) rfl rfl (Nat.le_of_ble_eq_true rfl) rfl hW hr (fun p e s m args below meth c E htab => ?_)
  unfold f_L_distance
  refine G.aload E dL_distance_0 4 rfl ?_
  refine G.iconst (v := 0) E dL_distance_2 (by decide) ?_
  refine G.aload_n E dL_distance_3 0 rfl rfl ?_
  refine G.iload_n E dL_distance_4 1 rfl rfl ?_
  refine G.iload_n E dL_distance_5 2 rfl rfl ?_
  refine G.iload_n E dL_distance_6 3 rfl rfl ?_
  refine G.callHl (mc1 := 2) (ms1 := 12) (rm := rm_X7_distance) (n := 3) (T := TX7) (N := 7) (C := RX7) (a := h 0) (q0 := 0) (As := [.int a1, .int a2, .int a3]) E dL_distance_7 (fun r hr => ?_) gL_distance_X7_distance rfl rfl rfl (by decide +kernel) ⟨(Nat.le_of_ble_eq_true rfl), (Nat.le_of_ble_eq_true rfl)⟩ ((wsL_at0 _ _ _).trans (wsC_at0 _ _ _)) rfl rfl (Nat.le_of_ble_eq_true rfl) ⟨Nat.le_of_ble_eq_true rfl, Nat.le_of_ble_eq_true rfl⟩ (fun v1 s2 => ?_) (fun q s4 => ?_)
  · obtain ⟨r1, hr1, rfl⟩ := lXC_some hr
    exact ConX.inC E.wf (c_X7_distance (wfL_C E.wf) hfl hr1)
  · refine G.oast (q0 := 71) E dL_distance_10 (wsL_at71 _ _ _) (fun f => wsL_setO _ _ _ f) (fun s3 => ?_)
    refine G.goto (tgt := 18) E dL_distance_11 (by decide) ?_
    refine G.iconst (v := 0) E dL_distance_18 (by decide) ?_
    exact G.iret E dL_distance_19 rfl rfl
  · refine GX.on (fun hq => ?_) (fun hq => ?_)
    · subst hq
      refine GX.catch (name := "java/lang/IndexOutOfBoundsException") E htab [] ⟨0, 11, 14, 19⟩ [] rfl (fun z hz => nomatch hz) (by decide) (by decide) (List.mem_of_getElem? (i := 1) rfl) (by decide +kernel) (fun a => ?_)
      refine G.astore (lv' := [(5, .ref a), (0, .ref (h 0)), (1, .int a1), (2, .int a2), (3, .int a3), (4, .ref (h 71))]) E dL_distance_14 (by decide) rfl ?_
      refine G.iconst (v := 1) E dL_distance_16 (by decide) ?_
      exact G.iret E dL_distance_17 rfl rfl
    · exact GX.no
abbrev rm_L_chance : Room := { frames := 16, cells := 4, slots := 24, locals := 404 }
noncomputable def f_L_chance (N : Nat) (σ : W3) (a1 : Int32) (a2 : Int32) (a3 : Int32) (a4 : Int32) : Option (Int32 × W3) :=
  bH (lXC σ (f_X7_chance N σ.1 a1 a2 a3 a4)) (fun v1 s2 =>
    oS s2 0 v1 fun s3 =>
    some (0, s3)) (fun q s4 =>
    if q = 1 then (
      some (1, s4))
    else (
      if q = 2 then (
        some (2, s4))
      else (
        none)))
set_option maxHeartbeats 4000000 in
set_option maxRecDepth 100000 in
theorem c_L_chance {l : Launch} {D : va_G} {cy : Nat → ClassId} {h : Nat → Nat} {N : Nat} {σ : W3} {a1 : Int32} {a2 : Int32} {a3 : Int32} {a4 : Int32} {r : Int32} {σ1 : W3} (hW : WF (wsL cy h) (adL h)) (hfl : l.stackTraces = false) (hr : f_L_chance N σ a1 a2 a3 a4 = some (r, σ1)) : Con l D cy (wsL cy h) (adL h) yL_chance wsL_chance rm_L_chance 4 24 [.ref (h 0), .int a1, .int a2, .int a3, .int a4, .ref (h 71)] (some (.int r)) σ σ1 := by
  refine Con.ofH (ρ := Int32 × W3) (lv0 := [(0, .ref (h 0)), (1, .int a1), (2, .int a2), (3, .int a3), (4, .int a4), (5, .ref (h 71))]) (σ := σ) (mc := 4) (ms := 24) (fun r : Int32 × W3 => some (.int r.1)) (fun r => r.2) (by decide) rfl rfl (Nat.le_of_ble_eq_true rfl) rfl hW hr (fun p e s m args below meth c E htab => ?_)
  unfold f_L_chance
  refine G.aload E dL_chance_0 5 rfl ?_
  refine G.iconst (v := 0) E dL_chance_2 (by decide) ?_
  refine G.aload_n E dL_chance_3 0 rfl rfl ?_
  refine G.iload_n E dL_chance_4 1 rfl rfl ?_
  refine G.iload_n E dL_chance_5 2 rfl rfl ?_
  refine G.iload_n E dL_chance_6 3 rfl rfl ?_
  refine G.iload E dL_chance_7 4 rfl ?_
  refine G.callHl (mc1 := 4) (ms1 := 24) (rm := rm_X7_chance) (n := 4) (T := TX7) (N := 7) (C := RX7) (a := h 0) (q0 := 0) (As := [.int a1, .int a2, .int a3, .int a4]) E dL_chance_9 (fun r hr => ?_) gL_chance_X7_chance rfl rfl rfl (by decide +kernel) ⟨(Nat.le_of_ble_eq_true rfl), (Nat.le_of_ble_eq_true rfl)⟩ ((wsL_at0 _ _ _).trans (wsC_at0 _ _ _)) rfl rfl (Nat.le_of_ble_eq_true rfl) ⟨Nat.le_of_ble_eq_true rfl, Nat.le_of_ble_eq_true rfl⟩ (fun v1 s2 => ?_) (fun q s4 => ?_)
  · obtain ⟨r1, hr1, rfl⟩ := lXC_some hr
    exact ConX.inC E.wf (c_X7_chance (wfL_C E.wf) hfl hr1)
  · refine G.oast (q0 := 71) E dL_chance_12 (wsL_at71 _ _ _) (fun f => wsL_setO _ _ _ f) (fun s3 => ?_)
    refine G.goto (tgt := 24) E dL_chance_13 (by decide) ?_
    refine G.iconst (v := 0) E dL_chance_24 (by decide) ?_
    exact G.iret E dL_chance_25 rfl rfl
  · refine GX.on (fun hq => ?_) (fun hq => ?_)
    · subst hq
      refine GX.catch (name := "java/lang/IndexOutOfBoundsException") E htab [] ⟨0, 13, 16, 19⟩ [⟨0, 13, 20, 21⟩] rfl (fun z hz => nomatch hz) (by decide) (by decide) (List.mem_of_getElem? (i := 1) rfl) (by decide +kernel) (fun a => ?_)
      refine G.astore (lv' := [(6, .ref a), (0, .ref (h 0)), (1, .int a1), (2, .int a2), (3, .int a3), (4, .int a4), (5, .ref (h 71))]) E dL_chance_16 (by decide) rfl ?_
      refine G.iconst (v := 1) E dL_chance_18 (by decide) ?_
      exact G.iret E dL_chance_19 rfl rfl
    · refine GX.on (fun hq => ?_) (fun hq => ?_)
      · subst hq
        refine GX.catch (name := "java/lang/IllegalArgumentException") E htab [⟨0, 13, 16, 19⟩] ⟨0, 13, 20, 21⟩ [] rfl (fun z hz => by cases List.mem_singleton.mp hz; exact ⟨by decide, "java/lang/IndexOutOfBoundsException", (List.mem_of_getElem? (i := 1) rfl), by decide +kernel⟩) (by decide) (by decide) (List.mem_of_getElem? (i := 2) rfl) (by decide +kernel) (fun a => ?_)
        refine G.astore (lv' := [(6, .ref a), (0, .ref (h 0)), (1, .int a1), (2, .int a2), (3, .int a3), (4, .int a4), (5, .ref (h 71))]) E dL_chance_20 (by decide) rfl ?_
        refine G.iconst (v := 2) E dL_chance_22 (by decide) ?_
        exact G.iret E dL_chance_23 rfl rfl
      · exact GX.no
abbrev rm_L_erased : Room := { frames := 9, cells := 1, slots := 6, locals := 141 }
noncomputable def f_L_erased (N : Nat) (σ : W3) (a1 : Int32) : Option (Int32 × W3) :=
  bH (lXC σ (f_X7_erased N σ.1 a1)) (fun v1 s2 =>
    oS s2 0 (Int32.toInt64 v1) fun s3 =>
    some (0, s3)) (fun q s4 =>
    if q = 1 then (
      some (1, s4))
    else (
      if q = 2 then (
        some (2, s4))
      else (
        none)))
set_option maxHeartbeats 4000000 in
set_option maxRecDepth 100000 in
theorem c_L_erased {l : Launch} {D : va_G} {cy : Nat → ClassId} {h : Nat → Nat} {N : Nat} {σ : W3} {a1 : Int32} {r : Int32} {σ1 : W3} (hW : WF (wsL cy h) (adL h)) (hfl : l.stackTraces = false) (hr : f_L_erased N σ a1 = some (r, σ1)) : Con l D cy (wsL cy h) (adL h) yL_erased wsL_erased rm_L_erased 1 6 [.ref (h 0), .int a1, .ref (h 71)] (some (.int r)) σ σ1 := by
  refine Con.ofH (ρ := Int32 × W3) (lv0 := [(0, .ref (h 0)), (1, .int a1), (2, .ref (h 71))]) (σ := σ) (mc := 1) (ms := 6) (fun r : Int32 × W3 => some (.int r.1)) (fun r => r.2) (by decide) rfl rfl (Nat.le_of_ble_eq_true rfl) rfl hW hr (fun p e s m args below meth c E htab => ?_)
  unfold f_L_erased
  refine G.aload_n E dL_erased_0 2 rfl rfl ?_
  refine G.iconst (v := 0) E dL_erased_1 (by decide) ?_
  refine G.aload_n E dL_erased_2 0 rfl rfl ?_
  refine G.iload_n E dL_erased_3 1 rfl rfl ?_
  refine G.callHi (mc1 := 1) (ms1 := 6) (rm := rm_X7_erased) (n := 1) (T := TX7) (N := 7) (C := RX7) (a := h 0) (q0 := 0) (As := [.int a1]) E dL_erased_4 (fun r hr => ?_) gL_erased_X7_erased rfl rfl rfl (by decide +kernel) ⟨(Nat.le_of_ble_eq_true rfl), (Nat.le_of_ble_eq_true rfl)⟩ ((wsL_at0 _ _ _).trans (wsC_at0 _ _ _)) rfl rfl (Nat.le_of_ble_eq_true rfl) ⟨Nat.le_of_ble_eq_true rfl, Nat.le_of_ble_eq_true rfl⟩ (fun v1 s2 => ?_) (fun q s4 => ?_)
  · obtain ⟨r1, hr1, rfl⟩ := lXC_some hr
    exact ConX.inC E.wf (c_X7_erased (wfL_C E.wf) hfl hr1)
  · refine G.i2l E dL_erased_7 ?_
    refine G.oast (q0 := 71) E dL_erased_8 (wsL_at71 _ _ _) (fun f => wsL_setO _ _ _ f) (fun s3 => ?_)
    refine G.goto (tgt := 18) E dL_erased_9 (by decide) ?_
    refine G.iconst (v := 0) E dL_erased_18 (by decide) ?_
    exact G.iret E dL_erased_19 rfl rfl
  · refine GX.on (fun hq => ?_) (fun hq => ?_)
    · subst hq
      refine GX.catch (name := "java/lang/IndexOutOfBoundsException") E htab [] ⟨0, 9, 12, 19⟩ [⟨0, 9, 15, 21⟩] rfl (fun z hz => nomatch hz) (by decide) (by decide) (List.mem_of_getElem? (i := 1) rfl) (by decide +kernel) (fun a => ?_)
      refine G.astore_n (lv' := [(3, .ref a), (0, .ref (h 0)), (1, .int a1), (2, .ref (h 71))]) E dL_erased_12 rfl (by decide) rfl ?_
      refine G.iconst (v := 1) E dL_erased_13 (by decide) ?_
      exact G.iret E dL_erased_14 rfl rfl
    · refine GX.on (fun hq => ?_) (fun hq => ?_)
      · subst hq
        refine GX.catch (name := "java/lang/IllegalArgumentException") E htab [⟨0, 9, 12, 19⟩] ⟨0, 9, 15, 21⟩ [] rfl (fun z hz => by cases List.mem_singleton.mp hz; exact ⟨by decide, "java/lang/IndexOutOfBoundsException", (List.mem_of_getElem? (i := 1) rfl), by decide +kernel⟩) (by decide) (by decide) (List.mem_of_getElem? (i := 2) rfl) (by decide +kernel) (fun a => ?_)
        refine G.astore_n (lv' := [(3, .ref a), (0, .ref (h 0)), (1, .int a1), (2, .ref (h 71))]) E dL_erased_15 rfl (by decide) rfl ?_
        refine G.iconst (v := 2) E dL_erased_16 (by decide) ?_
        exact G.iret E dL_erased_17 rfl rfl
      · exact GX.no
abbrev rm_L_starred : Room := { frames := 17, cells := 1, slots := 6, locals := 426 }
noncomputable def f_L_starred (N : Nat) (σ : W3) (a1 : Int32) (a2 : Int32) : Option (Int32 × W3) :=
  bH (lXC σ (f_X7_starred N σ.1 a1 a2)) (fun v1 s2 =>
    oS s2 0 v1 fun s3 =>
    some (0, s3)) (fun q s4 =>
    if q = 1 then (
      some (1, s4))
    else (
      none))
set_option maxHeartbeats 4000000 in
set_option maxRecDepth 100000 in
theorem c_L_starred {l : Launch} {D : va_G} {cy : Nat → ClassId} {h : Nat → Nat} {N : Nat} {σ : W3} {a1 : Int32} {a2 : Int32} {r : Int32} {σ1 : W3} (hW : WF (wsL cy h) (adL h)) (hfl : l.stackTraces = false) (hr : f_L_starred N σ a1 a2 = some (r, σ1)) : Con l D cy (wsL cy h) (adL h) yL_starred wsL_starred rm_L_starred 1 6 [.ref (h 0), .int a1, .int a2, .ref (h 71)] (some (.int r)) σ σ1 := by
  refine Con.ofH (ρ := Int32 × W3) (lv0 := [(0, .ref (h 0)), (1, .int a1), (2, .int a2), (3, .ref (h 71))]) (σ := σ) (mc := 1) (ms := 6) (fun r : Int32 × W3 => some (.int r.1)) (fun r => r.2) (by decide) rfl rfl (Nat.le_of_ble_eq_true rfl) rfl hW hr (fun p e s m args below meth c E htab => ?_)
  unfold f_L_starred
  refine G.aload_n E dL_starred_0 3 rfl rfl ?_
  refine G.iconst (v := 0) E dL_starred_1 (by decide) ?_
  refine G.aload_n E dL_starred_2 0 rfl rfl ?_
  refine G.iload_n E dL_starred_3 1 rfl rfl ?_
  refine G.iload_n E dL_starred_4 2 rfl rfl ?_
  refine G.callHl (mc1 := 1) (ms1 := 6) (rm := rm_X7_starred) (n := 2) (T := TX7) (N := 7) (C := RX7) (a := h 0) (q0 := 0) (As := [.int a1, .int a2]) E dL_starred_5 (fun r hr => ?_) gL_starred_X7_starred rfl rfl rfl (by decide +kernel) ⟨(Nat.le_of_ble_eq_true rfl), (Nat.le_of_ble_eq_true rfl)⟩ ((wsL_at0 _ _ _).trans (wsC_at0 _ _ _)) rfl rfl (Nat.le_of_ble_eq_true rfl) ⟨Nat.le_of_ble_eq_true rfl, Nat.le_of_ble_eq_true rfl⟩ (fun v1 s2 => ?_) (fun q s4 => ?_)
  · obtain ⟨r1, hr1, rfl⟩ := lXC_some hr
    exact ConX.inC E.wf (c_X7_starred (wfL_C E.wf) hfl hr1)
  · refine G.oast (q0 := 71) E dL_starred_8 (wsL_at71 _ _ _) (fun f => wsL_setO _ _ _ f) (fun s3 => ?_)
    refine G.goto (tgt := 16) E dL_starred_9 (by decide) ?_
    refine G.iconst (v := 0) E dL_starred_16 (by decide) ?_
    exact G.iret E dL_starred_17 rfl rfl
  · refine GX.on (fun hq => ?_) (fun hq => ?_)
    · subst hq
      refine GX.catch (name := "java/lang/IndexOutOfBoundsException") E htab [] ⟨0, 9, 12, 19⟩ [] rfl (fun z hz => nomatch hz) (by decide) (by decide) (List.mem_of_getElem? (i := 1) rfl) (by decide +kernel) (fun a => ?_)
      refine G.astore (lv' := [(4, .ref a), (0, .ref (h 0)), (1, .int a1), (2, .int a2), (3, .ref (h 71))]) E dL_starred_12 (by decide) rfl ?_
      refine G.iconst (v := 1) E dL_starred_14 (by decide) ?_
      exact G.iret E dL_starred_15 rfl rfl
    · exact GX.no
abbrev rm_L_move : Room := { frames := 11, cells := 3, slots := 18, locals := 185 }
noncomputable def f_L_move (N : Nat) (σ : W3) (a1 : Int32) (a2 : Int32) : Option (Int32 × W3) :=
  bH (lXC σ (f_X7_move N σ.1 a1 a2)) (fun v1 s2 =>
    some (0, s2)) (fun q s3 =>
    if q = 1 then (
      some (1, s3))
    else (
      if q = 2 then (
        some (2, s3))
      else (
        if q = 3 then (
          some (3, s3))
        else (
          none))))
set_option maxHeartbeats 4000000 in
set_option maxRecDepth 100000 in
theorem c_L_move {l : Launch} {D : va_G} {cy : Nat → ClassId} {h : Nat → Nat} {N : Nat} {σ : W3} {a1 : Int32} {a2 : Int32} {r : Int32} {σ1 : W3} (hW : WF (wsL cy h) (adL h)) (hfl : l.stackTraces = false) (hr : f_L_move N σ a1 a2 = some (r, σ1)) : Con l D cy (wsL cy h) (adL h) yL_move wsL_move rm_L_move 3 18 [.ref (h 0), .int a1, .int a2] (some (.int r)) σ σ1 := by
  refine Con.ofH (ρ := Int32 × W3) (lv0 := [(0, .ref (h 0)), (1, .int a1), (2, .int a2)]) (σ := σ) (mc := 3) (ms := 18) (fun r : Int32 × W3 => some (.int r.1)) (fun r => r.2) (by decide) rfl rfl (Nat.le_of_ble_eq_true rfl) rfl hW hr (fun p e s m args below meth c E htab => ?_)
  unfold f_L_move
  refine G.aload_n E dL_move_0 0 rfl rfl ?_
  refine G.iload_n E dL_move_1 1 rfl rfl ?_
  refine G.iload_n E dL_move_2 2 rfl rfl ?_
  refine G.callHv (mc1 := 3) (ms1 := 18) (rm := rm_X7_move) (n := 2) (T := TX7) (N := 7) (C := RX7) (a := h 0) (q0 := 0) (As := [.int a1, .int a2]) E dL_move_3 (fun r hr => ?_) gL_move_X7_move rfl rfl rfl (by decide +kernel) ⟨(Nat.le_of_ble_eq_true rfl), (Nat.le_of_ble_eq_true rfl)⟩ ((wsL_at0 _ _ _).trans (wsC_at0 _ _ _)) rfl rfl (Nat.le_of_ble_eq_true rfl) ⟨Nat.le_of_ble_eq_true rfl, Nat.le_of_ble_eq_true rfl⟩ (fun v1 s2 => ?_) (fun q s3 => ?_)
  · obtain ⟨r1, hr1, rfl⟩ := lXC_some hr
    exact ConX.inC E.wf (c_X7_move (wfL_C E.wf) hfl hr1)
  · refine G.goto (tgt := 18) E dL_move_6 (by decide) ?_
    refine G.iconst (v := 0) E dL_move_18 (by decide) ?_
    exact G.iret E dL_move_19 rfl rfl
  · refine GX.on (fun hq => ?_) (fun hq => ?_)
    · subst hq
      refine GX.catch (name := "java/lang/IndexOutOfBoundsException") E htab [] ⟨0, 6, 9, 19⟩ [⟨0, 6, 12, 21⟩, ⟨0, 6, 15, 13⟩] rfl (fun z hz => nomatch hz) (by decide) (by decide) (List.mem_of_getElem? (i := 1) rfl) (by decide +kernel) (fun a => ?_)
      refine G.astore_n (lv' := [(3, .ref a), (0, .ref (h 0)), (1, .int a1), (2, .int a2)]) E dL_move_9 rfl (by decide) rfl ?_
      refine G.iconst (v := 1) E dL_move_10 (by decide) ?_
      exact G.iret E dL_move_11 rfl rfl
    · refine GX.on (fun hq => ?_) (fun hq => ?_)
      · subst hq
        refine GX.catch (name := "java/lang/IllegalArgumentException") E htab [⟨0, 6, 9, 19⟩] ⟨0, 6, 12, 21⟩ [⟨0, 6, 15, 13⟩] rfl (fun z hz => by cases List.mem_singleton.mp hz; exact ⟨by decide, "java/lang/IndexOutOfBoundsException", (List.mem_of_getElem? (i := 1) rfl), by decide +kernel⟩) (by decide) (by decide) (List.mem_of_getElem? (i := 2) rfl) (by decide +kernel) (fun a => ?_)
        refine G.astore_n (lv' := [(3, .ref a), (0, .ref (h 0)), (1, .int a1), (2, .int a2)]) E dL_move_12 rfl (by decide) rfl ?_
        refine G.iconst (v := 2) E dL_move_13 (by decide) ?_
        exact G.iret E dL_move_14 rfl rfl
      · refine GX.on (fun hq => ?_) (fun hq => ?_)
        · subst hq
          refine GX.catch (name := "java/lang/IllegalStateException") E htab [⟨0, 6, 9, 19⟩, ⟨0, 6, 12, 21⟩] ⟨0, 6, 15, 13⟩ [] rfl (fun z hz => by simp only [List.mem_cons, List.not_mem_nil, or_false] at hz; rcases hz with rfl | rfl; exact ⟨by decide, "java/lang/IndexOutOfBoundsException", (List.mem_of_getElem? (i := 1) rfl), by decide +kernel⟩; exact ⟨by decide, "java/lang/IllegalArgumentException", (List.mem_of_getElem? (i := 2) rfl), by decide +kernel⟩) (by decide) (by decide) (List.mem_of_getElem? (i := 3) rfl) (by decide +kernel) (fun a => ?_)
          refine G.astore_n (lv' := [(3, .ref a), (0, .ref (h 0)), (1, .int a1), (2, .int a2)]) E dL_move_15 rfl (by decide) rfl ?_
          refine G.iconst (v := 3) E dL_move_16 (by decide) ?_
          exact G.iret E dL_move_17 rfl rfl
        · exact GX.no
abbrev rm_L_undo : Room := { frames := 9, cells := 1, slots := 6, locals := 140 }
noncomputable def f_L_undo (N : Nat) (σ : W3) : Option (Int32 × W3) :=
  bH (lXC σ (f_X7_undo N σ.1)) (fun v1 s2 =>
    oS s2 0 (Int32.toInt64 v1) fun s3 =>
    some (0, s3)) (fun q s4 =>
    if q = 3 then (
      some (1, s4))
    else (
      none))
set_option maxHeartbeats 4000000 in
set_option maxRecDepth 100000 in
theorem c_L_undo {l : Launch} {D : va_G} {cy : Nat → ClassId} {h : Nat → Nat} {N : Nat} {σ : W3} {r : Int32} {σ1 : W3} (hW : WF (wsL cy h) (adL h)) (hfl : l.stackTraces = false) (hr : f_L_undo N σ = some (r, σ1)) : Con l D cy (wsL cy h) (adL h) yL_undo wsL_undo rm_L_undo 1 6 [.ref (h 0), .ref (h 71)] (some (.int r)) σ σ1 := by
  refine Con.ofH (ρ := Int32 × W3) (lv0 := [(0, .ref (h 0)), (1, .ref (h 71))]) (σ := σ) (mc := 1) (ms := 6) (fun r : Int32 × W3 => some (.int r.1)) (fun r => r.2) (by decide) rfl rfl (Nat.le_of_ble_eq_true rfl) rfl hW hr (fun p e s m args below meth c E htab => ?_)
  unfold f_L_undo
  refine G.aload_n E dL_undo_0 1 rfl rfl ?_
  refine G.iconst (v := 0) E dL_undo_1 (by decide) ?_
  refine G.aload_n E dL_undo_2 0 rfl rfl ?_
  refine G.callHi (mc1 := 1) (ms1 := 6) (rm := rm_X7_undo) (n := 0) (T := TX7) (N := 7) (C := RX7) (a := h 0) (q0 := 0) (As := []) E dL_undo_3 (fun r hr => ?_) gL_undo_X7_undo rfl rfl rfl (by decide +kernel) ⟨(Nat.le_of_ble_eq_true rfl), (Nat.le_of_ble_eq_true rfl)⟩ ((wsL_at0 _ _ _).trans (wsC_at0 _ _ _)) rfl rfl (Nat.le_of_ble_eq_true rfl) ⟨Nat.le_of_ble_eq_true rfl, Nat.le_of_ble_eq_true rfl⟩ (fun v1 s2 => ?_) (fun q s4 => ?_)
  · obtain ⟨r1, hr1, rfl⟩ := lXC_some hr
    exact ConX.inC E.wf (c_X7_undo (wfL_C E.wf) hfl hr1)
  · refine G.i2l E dL_undo_6 ?_
    refine G.oast (q0 := 71) E dL_undo_7 (wsL_at71 _ _ _) (fun f => wsL_setO _ _ _ f) (fun s3 => ?_)
    refine G.goto (tgt := 14) E dL_undo_8 (by decide) ?_
    refine G.iconst (v := 0) E dL_undo_14 (by decide) ?_
    exact G.iret E dL_undo_15 rfl rfl
  · refine GX.on (fun hq => ?_) (fun hq => ?_)
    · subst hq
      refine GX.catch (name := "java/lang/IllegalStateException") E htab [] ⟨0, 8, 11, 13⟩ [] rfl (fun z hz => nomatch hz) (by decide) (by decide) (List.mem_of_getElem? (i := 1) rfl) (by decide +kernel) (fun a => ?_)
      refine G.astore_n (lv' := [(2, .ref a), (0, .ref (h 0)), (1, .ref (h 71))]) E dL_undo_11 rfl (by decide) rfl ?_
      refine G.iconst (v := 1) E dL_undo_12 (by decide) ?_
      exact G.iret E dL_undo_13 rfl rfl
    · exact GX.no
end TR
