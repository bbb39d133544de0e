section TR
variable {p : Program} {l : Launch} {e : Env} {s : State} {m : MethodId} {args : Array Value} {below : List Frame} {meth : Method} {c : Code} {D : va_G} {cy : Nat → ClassId} {h : Nat → Nat}

abbrev rm_L_node : Room := { frames := 9, cells := 1, slots := 6, locals := 141 }
noncomputable def f_L_node (N : Nat) (γ : Wd) (a1 : Int32) : Option (Int32 × Wd) :=
  bH (f_X7_node N γ a1) (fun v1 s2 =>
    some (v1, s2)) (fun q s3 =>
    if q = 3 then (
      some ((-7300), s3))
    else (
      none))
set_option maxHeartbeats 4000000 in
set_option maxRecDepth 100000 in
theorem c_L_node {l : Launch} {D : va_G} {cy : Nat → ClassId} {h : Nat → Nat} {N : Nat} {γ : Wd} {ν : Wd} {a1 : Int32} {r : Int32} {γ1 : Wd} (hW : WF (wsL cy h) (adL h)) (hfl : l.stackTraces = false) (hr : f_L_node N γ a1 = some (r, γ1)) : Con l D cy (wsL cy h) (adL h) yL_node wsL_node rm_L_node 1 6 [.ref (h 0), .int a1] (some (.int r)) (γ, ν) (γ1, ν) := by
  refine Con.ofH (ρ := Int32 × Wd) (lv0 := [(0, .ref (h 0)), (1, .int a1)]) (σ := (γ, ν)) (mc := 1) (ms := 6) (fun r : Int32 × Wd => some (.int r.1)) (fun r => (r.2, ν)) (by decide) rfl rfl (Nat.le_of_ble_eq_true rfl) rfl hW hr (fun p e s m args below meth c E htab => ?_)
  unfold f_L_node
  refine G.aload_n E dL_node_0 0 rfl rfl ?_
  refine G.iload_n E dL_node_1 1 rfl rfl ?_
  refine G.callHiW (mc1 := 1) (ms1 := 6) (rm := rm_X7_node) (n := 1) (T := TX7) (N := 7) (C := RX7) (a := h 0) (q0 := 0) (As := [.int a1]) (fun x => (x, ν)) E dL_node_2 (fun r hr => ConX.inC E.wf (c_X7_node (wfL_C E.wf) hfl hr)) gL_node_X7_node rfl rfl rfl (by decide +kernel) ⟨Nat.le_of_ble_eq_true rfl, Nat.le_of_ble_eq_true rfl⟩ ((wsL_at0 _ _ _).trans (wsC_at0 _ _ _)) rfl rfl (Nat.le_of_ble_eq_true rfl) ⟨by show _ ≤ 1; omega, by show _ ≤ 6; omega⟩ (fun v1 s2 => ?_) (fun q s3 => ?_)
  · refine G.istore_n (lv' := [(2, .int v1), (0, .ref (h 0)), (1, .int a1)]) E dL_node_5 rfl (by decide) rfl ?_
    refine G.goto (tgt := 14) E dL_node_6 (by decide) ?_
    refine G.iload_n E dL_node_14 0 rfl rfl ?_
    refine G.widen (k1 := 1) (n1 := 6) (by omega) (by omega) ?_
    exact G.iret E dL_node_15 rfl rfl
  · refine GX.on (fun hq => ?_) (fun hq => ?_)
    · subst hq
      refine GX.catch (name := "java/lang/IllegalStateException") E htab [] ⟨0, 6, 9, 14⟩ [] rfl (fun z hz => nomatch hz) (by decide) (by decide) (List.mem_of_getElem? (i := 1) rfl) (by decide +kernel) (fun a => ?_)
      refine G.astore_n (lv' := [(3, .ref a), (0, .ref (h 0)), (1, .int a1)]) E dL_node_9 rfl (by decide) rfl ?_
      refine G.sipush (v := (-7300)) E dL_node_10 (by decide) ?_
      refine G.widen (k1 := 1) (n1 := 6) (by omega) (by omega) ?_
      exact G.iret E dL_node_13 rfl rfl
    · exact GX.no
abbrev rm_L_wire : Room := { frames := 10, cells := 3, slots := 18, locals := 164 }
noncomputable def f_L_wire (N : Nat) (γ : Wd) (a1 : Int32) (a2 : Int32) (a3 : Int32) : Option (Int32 × Wd) :=
  bH (f_X7_wire N γ a1 a2 a3) (fun v1 s2 =>
    some (v1, s2)) (fun q s3 =>
    if q = 1 then (
      some ((-7100), s3))
    else (
      if q = 2 then (
        some ((-7200), s3))
      else (
        if q = 3 then (
          some ((-7300), s3))
        else (
          none))))
set_option maxHeartbeats 4000000 in
set_option maxRecDepth 100000 in
theorem c_L_wire {l : Launch} {D : va_G} {cy : Nat → ClassId} {h : Nat → Nat} {N : Nat} {γ : Wd} {ν : Wd} {a1 : Int32} {a2 : Int32} {a3 : Int32} {r : Int32} {γ1 : Wd} (hW : WF (wsL cy h) (adL h)) (hfl : l.stackTraces = false) (hr : f_L_wire N γ a1 a2 a3 = some (r, γ1)) : Con l D cy (wsL cy h) (adL h) yL_wire wsL_wire rm_L_wire 3 18 [.ref (h 0), .int a1, .int a2, .int a3] (some (.int r)) (γ, ν) (γ1, ν) := by
  refine Con.ofH (ρ := Int32 × Wd) (lv0 := [(0, .ref (h 0)), (1, .int a1), (2, .int a2), (3, .int a3)]) (σ := (γ, ν)) (mc := 3) (ms := 18) (fun r : Int32 × Wd => some (.int r.1)) (fun r => (r.2, ν)) (by decide) rfl rfl (Nat.le_of_ble_eq_true rfl) rfl hW hr (fun p e s m args below meth c E htab => ?_)
  unfold f_L_wire
  refine G.aload_n E dL_wire_0 0 rfl rfl ?_
  refine G.iload_n E dL_wire_1 1 rfl rfl ?_
  refine G.iload_n E dL_wire_2 2 rfl rfl ?_
  refine G.iload_n E dL_wire_3 3 rfl rfl ?_
  refine G.callHiW (mc1 := 3) (ms1 := 18) (rm := rm_X7_wire) (n := 3) (T := TX7) (N := 7) (C := RX7) (a := h 0) (q0 := 0) (As := [.int a1, .int a2, .int a3]) (fun x => (x, ν)) E dL_wire_4 (fun r hr => ConX.inC E.wf (c_X7_wire (wfL_C E.wf) hfl hr)) gL_wire_X7_wire rfl rfl rfl (by decide +kernel) ⟨Nat.le_of_ble_eq_true rfl, Nat.le_of_ble_eq_true rfl⟩ ((wsL_at0 _ _ _).trans (wsC_at0 _ _ _)) rfl rfl (Nat.le_of_ble_eq_true rfl) ⟨by show _ ≤ 3; omega, by show _ ≤ 18; omega⟩ (fun v1 s2 => ?_) (fun q s3 => ?_)
  · refine G.istore (lv' := [(4, .int v1), (0, .ref (h 0)), (1, .int a1), (2, .int a2), (3, .int a3)]) E dL_wire_7 (by decide) rfl ?_
    refine G.goto (tgt := 30) E dL_wire_9 (by decide) ?_
    refine G.iload E dL_wire_30 0 rfl ?_
    refine G.widen (k1 := 3) (n1 := 18) (by omega) (by omega) ?_
    exact G.iret E dL_wire_32 rfl rfl
  · refine GX.on (fun hq => ?_) (fun hq => ?_)
    · subst hq
      refine GX.catch (name := "java/lang/IndexOutOfBoundsException") E htab [] ⟨0, 9, 12, 20⟩ [⟨0, 9, 18, 22⟩, ⟨0, 9, 24, 14⟩] rfl (fun z hz => nomatch hz) (by decide) (by decide) (List.mem_of_getElem? (i := 1) rfl) (by decide +kernel) (fun a => ?_)
      refine G.astore (lv' := [(5, .ref a), (0, .ref (h 0)), (1, .int a1), (2, .int a2), (3, .int a3)]) E dL_wire_12 (by decide) rfl ?_
      refine G.sipush (v := (-7100)) E dL_wire_14 (by decide) ?_
      refine G.widen (k1 := 3) (n1 := 18) (by omega) (by omega) ?_
      exact G.iret E dL_wire_17 rfl rfl
    · refine GX.on (fun hq => ?_) (fun hq => ?_)
      · subst hq
        refine GX.catch (name := "java/lang/IllegalArgumentException") E htab [⟨0, 9, 12, 20⟩] ⟨0, 9, 18, 22⟩ [⟨0, 9, 24, 14⟩] rfl (fun z hz => by cases List.mem_singleton.mp hz; exact ⟨by decide, "java/lang/IndexOutOfBoundsException", (List.mem_of_getElem? (i := 1) rfl), by decide +kernel⟩) (by decide) (by decide) (List.mem_of_getElem? (i := 2) rfl) (by decide +kernel) (fun a => ?_)
        refine G.astore (lv' := [(5, .ref a), (0, .ref (h 0)), (1, .int a1), (2, .int a2), (3, .int a3)]) E dL_wire_18 (by decide) rfl ?_
        refine G.sipush (v := (-7200)) E dL_wire_20 (by decide) ?_
        refine G.widen (k1 := 3) (n1 := 18) (by omega) (by omega) ?_
        exact G.iret E dL_wire_23 rfl rfl
      · refine GX.on (fun hq => ?_) (fun hq => ?_)
        · subst hq
          refine GX.catch (name := "java/lang/IllegalStateException") E htab [⟨0, 9, 12, 20⟩, ⟨0, 9, 18, 22⟩] ⟨0, 9, 24, 14⟩ [] rfl (fun z hz => by simp only [List.mem_cons, List.not_mem_nil, or_false] at hz; rcases hz with rfl | rfl; exact ⟨by decide, "java/lang/IndexOutOfBoundsException", (List.mem_of_getElem? (i := 1) rfl), by decide +kernel⟩; exact ⟨by decide, "java/lang/IllegalArgumentException", (List.mem_of_getElem? (i := 2) rfl), by decide +kernel⟩) (by decide) (by decide) (List.mem_of_getElem? (i := 3) rfl) (by decide +kernel) (fun a => ?_)
          refine G.astore (lv' := [(5, .ref a), (0, .ref (h 0)), (1, .int a1), (2, .int a2), (3, .int a3)]) E dL_wire_24 (by decide) rfl ?_
          refine G.sipush (v := (-7300)) E dL_wire_26 (by decide) ?_
          refine G.widen (k1 := 3) (n1 := 18) (by omega) (by omega) ?_
          exact G.iret E dL_wire_29 rfl rfl
        · exact GX.no
abbrev rm_L_wireIs : Room := { frames := 10, cells := 2, slots := 12, locals := 163 }
noncomputable def f_L_wireIs (N : Nat) (γ : Wd) (a1 : Int32) (a2 : Int32) : Option (Int32 × Wd) :=
  bH (f_X7_wireIs N γ a1 a2) (fun v1 s2 =>
    some (v1, s2)) (fun q s3 =>
    if q = 1 then (
      some ((-7100), s3))
    else (
      if q = 2 then (
        some ((-7200), s3))
      else (
        none)))
set_option maxHeartbeats 4000000 in
set_option maxRecDepth 100000 in
theorem c_L_wireIs {l : Launch} {D : va_G} {cy : Nat → ClassId} {h : Nat → Nat} {N : Nat} {γ : Wd} {ν : Wd} {a1 : Int32} {a2 : Int32} {r : Int32} {γ1 : Wd} (hW : WF (wsL cy h) (adL h)) (hfl : l.stackTraces = false) (hr : f_L_wireIs N γ a1 a2 = some (r, γ1)) : Con l D cy (wsL cy h) (adL h) yL_wireIs wsL_wireIs rm_L_wireIs 2 12 [.ref (h 0), .int a1, .int a2] (some (.int r)) (γ, ν) (γ1, ν) := by
  refine Con.ofH (ρ := Int32 × Wd) (lv0 := [(0, .ref (h 0)), (1, .int a1), (2, .int a2)]) (σ := (γ, ν)) (mc := 2) (ms := 12) (fun r : Int32 × Wd => some (.int r.1)) (fun r => (r.2, ν)) (by decide) rfl rfl (Nat.le_of_ble_eq_true rfl) rfl hW hr (fun p e s m args below meth c E htab => ?_)
  unfold f_L_wireIs
  refine G.aload_n E dL_wireIs_0 0 rfl rfl ?_
  refine G.iload_n E dL_wireIs_1 1 rfl rfl ?_
  refine G.iload_n E dL_wireIs_2 2 rfl rfl ?_
  refine G.callHiW (mc1 := 2) (ms1 := 12) (rm := rm_X7_wireIs) (n := 2) (T := TX7) (N := 7) (C := RX7) (a := h 0) (q0 := 0) (As := [.int a1, .int a2]) (fun x => (x, ν)) E dL_wireIs_3 (fun r hr => ConX.inC E.wf (c_X7_wireIs (wfL_C E.wf) hfl hr)) gL_wireIs_X7_wireIs rfl rfl rfl (by decide +kernel) ⟨Nat.le_of_ble_eq_true rfl, Nat.le_of_ble_eq_true rfl⟩ ((wsL_at0 _ _ _).trans (wsC_at0 _ _ _)) rfl rfl (Nat.le_of_ble_eq_true rfl) ⟨by show _ ≤ 2; omega, by show _ ≤ 12; omega⟩ (fun v1 s2 => ?_) (fun q s3 => ?_)
  · refine G.istore_n (lv' := [(3, .int v1), (0, .ref (h 0)), (1, .int a1), (2, .int a2)]) E dL_wireIs_6 rfl (by decide) rfl ?_
    refine G.goto (tgt := 22) E dL_wireIs_7 (by decide) ?_
    refine G.iload_n E dL_wireIs_22 0 rfl rfl ?_
    refine G.widen (k1 := 2) (n1 := 12) (by omega) (by omega) ?_
    exact G.iret E dL_wireIs_23 rfl rfl
  · refine GX.on (fun hq => ?_) (fun hq => ?_)
    · subst hq
      refine GX.catch (name := "java/lang/IndexOutOfBoundsException") E htab [] ⟨0, 7, 10, 20⟩ [⟨0, 7, 16, 22⟩] rfl (fun z hz => nomatch hz) (by decide) (by decide) (List.mem_of_getElem? (i := 1) rfl) (by decide +kernel) (fun a => ?_)
      refine G.astore (lv' := [(4, .ref a), (0, .ref (h 0)), (1, .int a1), (2, .int a2)]) E dL_wireIs_10 (by decide) rfl ?_
      refine G.sipush (v := (-7100)) E dL_wireIs_12 (by decide) ?_
      refine G.widen (k1 := 2) (n1 := 12) (by omega) (by omega) ?_
      exact G.iret E dL_wireIs_15 rfl rfl
    · refine GX.on (fun hq => ?_) (fun hq => ?_)
      · subst hq
        refine GX.catch (name := "java/lang/IllegalArgumentException") E htab [⟨0, 7, 10, 20⟩] ⟨0, 7, 16, 22⟩ [] rfl (fun z hz => by cases List.mem_singleton.mp hz; exact ⟨by decide, "java/lang/IndexOutOfBoundsException", (List.mem_of_getElem? (i := 1) rfl), by decide +kernel⟩) (by decide) (by decide) (List.mem_of_getElem? (i := 2) rfl) (by decide +kernel) (fun a => ?_)
        refine G.astore (lv' := [(4, .ref a), (0, .ref (h 0)), (1, .int a1), (2, .int a2)]) E dL_wireIs_16 (by decide) rfl ?_
        refine G.sipush (v := (-7200)) E dL_wireIs_18 (by decide) ?_
        refine G.widen (k1 := 2) (n1 := 12) (by omega) (by omega) ?_
        exact G.iret E dL_wireIs_21 rfl rfl
      · exact GX.no
abbrev rm_L_tree : Room := { frames := 15, cells := 1, slots := 6, locals := 367 }
noncomputable def f_L_tree (N : Nat) (γ : Wd) (a1 : Int32) : Option (Int32 × Wd) :=
  bH (f_X7_tree N γ a1) (fun v1 s2 =>
    some (v1, s2)) (fun q s3 =>
    if q = 2 then (
      some ((-7200), s3))
    else (
      none))
set_option maxHeartbeats 4000000 in
set_option maxRecDepth 100000 in
theorem c_L_tree {l : Launch} {D : va_G} {cy : Nat → ClassId} {h : Nat → Nat} {N : Nat} {γ : Wd} {ν : Wd} {a1 : Int32} {r : Int32} {γ1 : Wd} (hW : WF (wsL cy h) (adL h)) (hfl : l.stackTraces = false) (hr : f_L_tree N γ a1 = some (r, γ1)) : Con l D cy (wsL cy h) (adL h) yL_tree wsL_tree rm_L_tree 1 6 [.ref (h 0), .int a1] (some (.int r)) (γ, ν) (γ1, ν) := by
  refine Con.ofH (ρ := Int32 × Wd) (lv0 := [(0, .ref (h 0)), (1, .int a1)]) (σ := (γ, ν)) (mc := 1) (ms := 6) (fun r : Int32 × Wd => some (.int r.1)) (fun r => (r.2, ν)) (by decide) rfl rfl (Nat.le_of_ble_eq_true rfl) rfl hW hr (fun p e s m args below meth c E htab => ?_)
  unfold f_L_tree
  refine G.aload_n E dL_tree_0 0 rfl rfl ?_
  refine G.iload_n E dL_tree_1 1 rfl rfl ?_
  refine G.callHiW (mc1 := 1) (ms1 := 6) (rm := rm_X7_tree) (n := 1) (T := TX7) (N := 7) (C := RX7) (a := h 0) (q0 := 0) (As := [.int a1]) (fun x => (x, ν)) E dL_tree_2 (fun r hr => ConX.inC E.wf (c_X7_tree (wfL_C E.wf) hfl hr)) gL_tree_X7_tree rfl rfl rfl (by decide +kernel) ⟨Nat.le_of_ble_eq_true rfl, Nat.le_of_ble_eq_true rfl⟩ ((wsL_at0 _ _ _).trans (wsC_at0 _ _ _)) rfl rfl (Nat.le_of_ble_eq_true rfl) ⟨by show _ ≤ 1; omega, by show _ ≤ 6; omega⟩ (fun v1 s2 => ?_) (fun q s3 => ?_)
  · refine G.istore_n (lv' := [(2, .int v1), (0, .ref (h 0)), (1, .int a1)]) E dL_tree_5 rfl (by decide) rfl ?_
    refine G.goto (tgt := 14) E dL_tree_6 (by decide) ?_
    refine G.iload_n E dL_tree_14 0 rfl rfl ?_
    refine G.widen (k1 := 1) (n1 := 6) (by omega) (by omega) ?_
    exact G.iret E dL_tree_15 rfl rfl
  · refine GX.on (fun hq => ?_) (fun hq => ?_)
    · subst hq
      refine GX.catch (name := "java/lang/IllegalArgumentException") E htab [] ⟨0, 6, 9, 22⟩ [] rfl (fun z hz => nomatch hz) (by decide) (by decide) (List.mem_of_getElem? (i := 1) rfl) (by decide +kernel) (fun a => ?_)
      refine G.astore_n (lv' := [(3, .ref a), (0, .ref (h 0)), (1, .int a1)]) E dL_tree_9 rfl (by decide) rfl ?_
      refine G.sipush (v := (-7200)) E dL_tree_10 (by decide) ?_
      refine G.widen (k1 := 1) (n1 := 6) (by omega) (by omega) ?_
      exact G.iret E dL_tree_13 rfl rfl
    · exact GX.no
abbrev rm_L_answer : Room := { frames := 17, cells := 3, slots := 18, locals := 422 }
noncomputable def f_L_answer (N : Nat) (γ : Wd) (a1 : Int32) (a2 : Int32) (a3 : Int32) : Option (Int64 × Wd) :=
  bH (f_X7_answer N γ a1 a2 a3) (fun v1 s2 =>
    some (v1, s2)) (fun q s3 =>
    if q = 1 then (
      some ((-9200000000000000001), s3))
    else (
      if q = 2 then (
        some ((-9200000000000000002), s3))
      else (
        none)))
set_option maxHeartbeats 4000000 in
set_option maxRecDepth 100000 in
theorem c_L_answer {l : Launch} {D : va_G} {cy : Nat → ClassId} {h : Nat → Nat} {N : Nat} {γ : Wd} {ν : Wd} {a1 : Int32} {a2 : Int32} {a3 : Int32} {r : Int64} {γ1 : Wd} (hW : WF (wsL cy h) (adL h)) (hfl : l.stackTraces = false) (hr : f_L_answer N γ a1 a2 a3 = some (r, γ1)) : Con l D cy (wsL cy h) (adL h) yL_answer wsL_answer rm_L_answer 3 18 [.ref (h 0), .int a1, .int a2, .int a3] (some (.long r)) (γ, ν) (γ1, ν) := by
  refine Con.ofH (ρ := Int64 × Wd) (lv0 := [(0, .ref (h 0)), (1, .int a1), (2, .int a2), (3, .int a3)]) (σ := (γ, ν)) (mc := 3) (ms := 18) (fun r : Int64 × Wd => some (.long r.1)) (fun r => (r.2, ν)) (by decide) rfl rfl (Nat.le_of_ble_eq_true rfl) rfl hW hr (fun p e s m args below meth c E htab => ?_)
  unfold f_L_answer
  refine G.aload_n E dL_answer_0 0 rfl rfl ?_
  refine G.iload_n E dL_answer_1 1 rfl rfl ?_
  refine G.iload_n E dL_answer_2 2 rfl rfl ?_
  refine G.iload_n E dL_answer_3 3 rfl rfl ?_
  refine G.callHlW (mc1 := 3) (ms1 := 18) (rm := rm_X7_answer) (n := 3) (T := TX7) (N := 7) (C := RX7) (a := h 0) (q0 := 0) (As := [.int a1, .int a2, .int a3]) (fun x => (x, ν)) E dL_answer_4 (fun r hr => ConX.inC E.wf (c_X7_answer (wfL_C E.wf) hfl hr)) gL_answer_X7_answer rfl rfl rfl (by decide +kernel) ⟨Nat.le_of_ble_eq_true rfl, Nat.le_of_ble_eq_true rfl⟩ ((wsL_at0 _ _ _).trans (wsC_at0 _ _ _)) rfl rfl (Nat.le_of_ble_eq_true rfl) ⟨by show _ ≤ 3; omega, by show _ ≤ 18; omega⟩ (fun v1 s2 => ?_) (fun q s3 => ?_)
  · refine G.lstore (lv' := [(4, .long v1), (0, .ref (h 0)), (1, .int a1), (2, .int a2), (3, .int a3)]) E dL_answer_7 (by decide) rfl ?_
    refine G.goto (tgt := 24) E dL_answer_9 (by decide) ?_
    refine G.lload E dL_answer_24 0 rfl ?_
    refine G.widen (k1 := 3) (n1 := 18) (by omega) (by omega) ?_
    exact G.lret E dL_answer_26 rfl rfl
  · refine GX.on (fun hq => ?_) (fun hq => ?_)
    · subst hq
      refine GX.catch (name := "java/lang/IndexOutOfBoundsException") E htab [] ⟨0, 9, 12, 20⟩ [⟨0, 9, 18, 22⟩] rfl (fun z hz => nomatch hz) (by decide) (by decide) (List.mem_of_getElem? (i := 1) rfl) (by decide +kernel) (fun a => ?_)
      refine G.astore (lv' := [(6, .ref a), (0, .ref (h 0)), (1, .int a1), (2, .int a2), (3, .int a3)]) E dL_answer_12 (by decide) rfl ?_
      refine G.ldc2w (v := -9200000000000000001) E dL_answer_14 (List.mem_of_getElem? (i := 3) rfl) ?_
      refine G.widen (k1 := 3) (n1 := 18) (by omega) (by omega) ?_
      exact G.lret E dL_answer_17 rfl rfl
    · refine GX.on (fun hq => ?_) (fun hq => ?_)
      · subst hq
        refine GX.catch (name := "java/lang/IllegalArgumentException") E htab [⟨0, 9, 12, 20⟩] ⟨0, 9, 18, 22⟩ [] rfl (fun z hz => by cases List.mem_singleton.mp hz; exact ⟨by decide, "java/lang/IndexOutOfBoundsException", (List.mem_of_getElem? (i := 1) rfl), by decide +kernel⟩) (by decide) (by decide) (List.mem_of_getElem? (i := 2) rfl) (by decide +kernel) (fun a => ?_)
        refine G.astore (lv' := [(6, .ref a), (0, .ref (h 0)), (1, .int a1), (2, .int a2), (3, .int a3)]) E dL_answer_18 (by decide) rfl ?_
        refine G.ldc2w (v := -9200000000000000002) E dL_answer_20 (List.mem_of_getElem? (i := 4) rfl) ?_
        refine G.widen (k1 := 3) (n1 := 18) (by omega) (by omega) ?_
        exact G.lret E dL_answer_23 rfl rfl
      · exact GX.no
abbrev rm_L_value : Room := { frames := 10, cells := 2, slots := 12, locals := 163 }
noncomputable def f_L_value (N : Nat) (γ : Wd) (a1 : Int32) (a2 : Int32) : Option (Int32 × Wd) :=
  bH (f_X7_value N γ a1 a2) (fun v1 s2 =>
    some (0, s2)) (fun q s3 =>
    if q = 1 then (
      some ((-7100), s3))
    else (
      if q = 2 then (
        some ((-7200), s3))
      else (
        none)))
set_option maxHeartbeats 4000000 in
set_option maxRecDepth 100000 in
theorem c_L_value {l : Launch} {D : va_G} {cy : Nat → ClassId} {h : Nat → Nat} {N : Nat} {γ : Wd} {ν : Wd} {a1 : Int32} {a2 : Int32} {r : Int32} {γ1 : Wd} (hW : WF (wsL cy h) (adL h)) (hfl : l.stackTraces = false) (hr : f_L_value N γ a1 a2 = some (r, γ1)) : Con l D cy (wsL cy h) (adL h) yL_value wsL_value rm_L_value 2 12 [.ref (h 0), .int a1, .int a2] (some (.int r)) (γ, ν) (γ1, ν) := by
  refine Con.ofH (ρ := Int32 × Wd) (lv0 := [(0, .ref (h 0)), (1, .int a1), (2, .int a2)]) (σ := (γ, ν)) (mc := 2) (ms := 12) (fun r : Int32 × Wd => some (.int r.1)) (fun r => (r.2, ν)) (by decide) rfl rfl (Nat.le_of_ble_eq_true rfl) rfl hW hr (fun p e s m args below meth c E htab => ?_)
  unfold f_L_value
  refine G.aload_n E dL_value_0 0 rfl rfl ?_
  refine G.iload_n E dL_value_1 1 rfl rfl ?_
  refine G.iload_n E dL_value_2 2 rfl rfl ?_
  refine G.callHvW (mc1 := 2) (ms1 := 12) (rm := rm_X7_value) (n := 2) (T := TX7) (N := 7) (C := RX7) (a := h 0) (q0 := 0) (As := [.int a1, .int a2]) (fun x => (x, ν)) E dL_value_3 (fun r hr => ConX.inC E.wf (c_X7_value (wfL_C E.wf) hfl hr)) gL_value_X7_value rfl rfl rfl (by decide +kernel) ⟨Nat.le_of_ble_eq_true rfl, Nat.le_of_ble_eq_true rfl⟩ ((wsL_at0 _ _ _).trans (wsC_at0 _ _ _)) rfl rfl (Nat.le_of_ble_eq_true rfl) ⟨by show _ ≤ 2; omega, by show _ ≤ 12; omega⟩ (fun v1 s2 => ?_) (fun q s3 => ?_)
  · refine G.goto (tgt := 19) E dL_value_6 (by decide) ?_
    refine G.iconst (v := 0) E dL_value_19 (by decide) ?_
    refine G.widen (k1 := 2) (n1 := 12) (by omega) (by omega) ?_
    exact G.iret E dL_value_20 rfl rfl
  · refine GX.on (fun hq => ?_) (fun hq => ?_)
    · subst hq
      refine GX.catch (name := "java/lang/IndexOutOfBoundsException") E htab [] ⟨0, 6, 9, 20⟩ [⟨0, 6, 14, 22⟩] rfl (fun z hz => nomatch hz) (by decide) (by decide) (List.mem_of_getElem? (i := 1) rfl) (by decide +kernel) (fun a => ?_)
      refine G.astore_n (lv' := [(3, .ref a), (0, .ref (h 0)), (1, .int a1), (2, .int a2)]) E dL_value_9 rfl (by decide) rfl ?_
      refine G.sipush (v := (-7100)) E dL_value_10 (by decide) ?_
      refine G.widen (k1 := 2) (n1 := 12) (by omega) (by omega) ?_
      exact G.iret E dL_value_13 rfl rfl
    · refine GX.on (fun hq => ?_) (fun hq => ?_)
      · subst hq
        refine GX.catch (name := "java/lang/IllegalArgumentException") E htab [⟨0, 6, 9, 20⟩] ⟨0, 6, 14, 22⟩ [] rfl (fun z hz => by cases List.mem_singleton.mp hz; exact ⟨by decide, "java/lang/IndexOutOfBoundsException", (List.mem_of_getElem? (i := 1) rfl), by decide +kernel⟩) (by decide) (by decide) (List.mem_of_getElem? (i := 2) rfl) (by decide +kernel) (fun a => ?_)
        refine G.astore_n (lv' := [(3, .ref a), (0, .ref (h 0)), (1, .int a1), (2, .int a2)]) E dL_value_14 rfl (by decide) rfl ?_
        refine G.sipush (v := (-7200)) E dL_value_15 (by decide) ?_
        refine G.widen (k1 := 2) (n1 := 12) (by omega) (by omega) ?_
        exact G.iret E dL_value_18 rfl rfl
      · exact GX.no
abbrev rm_L_potential : Room := { frames := 17, cells := 1, slots := 6, locals := 421 }
noncomputable def f_L_potential (N : Nat) (γ : Wd) (a1 : Int32) (a2 : Int32) : Option (Int64 × Wd) :=
  bH (f_X7_potential N γ a1 a2) (fun v1 s2 =>
    some (v1, s2)) (fun q s3 =>
    if q = 1 then (
      some ((-9200000000000000001), s3))
    else (
      none))
set_option maxHeartbeats 4000000 in
set_option maxRecDepth 100000 in
theorem c_L_potential {l : Launch} {D : va_G} {cy : Nat → ClassId} {h : Nat → Nat} {N : Nat} {γ : Wd} {ν : Wd} {a1 : Int32} {a2 : Int32} {r : Int64} {γ1 : Wd} (hW : WF (wsL cy h) (adL h)) (hfl : l.stackTraces = false) (hr : f_L_potential N γ a1 a2 = some (r, γ1)) : Con l D cy (wsL cy h) (adL h) yL_potential wsL_potential rm_L_potential 1 6 [.ref (h 0), .int a1, .int a2] (some (.long r)) (γ, ν) (γ1, ν) := by
  refine Con.ofH (ρ := Int64 × Wd) (lv0 := [(0, .ref (h 0)), (1, .int a1), (2, .int a2)]) (σ := (γ, ν)) (mc := 1) (ms := 6) (fun r : Int64 × Wd => some (.long r.1)) (fun r => (r.2, ν)) (by decide) rfl rfl (Nat.le_of_ble_eq_true rfl) rfl hW hr (fun p e s m args below meth c E htab => ?_)
  unfold f_L_potential
  refine G.aload_n E dL_potential_0 0 rfl rfl ?_
  refine G.iload_n E dL_potential_1 1 rfl rfl ?_
  refine G.iload_n E dL_potential_2 2 rfl rfl ?_
  refine G.callHlW (mc1 := 1) (ms1 := 6) (rm := rm_X7_potential) (n := 2) (T := TX7) (N := 7) (C := RX7) (a := h 0) (q0 := 0) (As := [.int a1, .int a2]) (fun x => (x, ν)) E dL_potential_3 (fun r hr => ConX.inC E.wf (c_X7_potential (wfL_C E.wf) hfl hr)) gL_potential_X7_potential rfl rfl rfl (by decide +kernel) ⟨Nat.le_of_ble_eq_true rfl, Nat.le_of_ble_eq_true rfl⟩ ((wsL_at0 _ _ _).trans (wsC_at0 _ _ _)) rfl rfl (Nat.le_of_ble_eq_true rfl) ⟨by show _ ≤ 1; omega, by show _ ≤ 6; omega⟩ (fun v1 s2 => ?_) (fun q s3 => ?_)
  · refine G.lstore_n (lv' := [(3, .long v1), (0, .ref (h 0)), (1, .int a1), (2, .int a2)]) E dL_potential_6 rfl (by decide) rfl ?_
    refine G.goto (tgt := 16) E dL_potential_7 (by decide) ?_
    refine G.lload_n E dL_potential_16 0 rfl rfl ?_
    refine G.widen (k1 := 1) (n1 := 6) (by omega) (by omega) ?_
    exact G.lret E dL_potential_17 rfl rfl
  · refine GX.on (fun hq => ?_) (fun hq => ?_)
    · subst hq
      refine GX.catch (name := "java/lang/IndexOutOfBoundsException") E htab [] ⟨0, 7, 10, 20⟩ [] rfl (fun z hz => nomatch hz) (by decide) (by decide) (List.mem_of_getElem? (i := 1) rfl) (by decide +kernel) (fun a => ?_)
      refine G.astore (lv' := [(5, .ref a), (0, .ref (h 0)), (1, .int a1), (2, .int a2)]) E dL_potential_10 (by decide) rfl ?_
      refine G.ldc2w (v := -9200000000000000001) E dL_potential_12 (List.mem_of_getElem? (i := 2) rfl) ?_
      refine G.widen (k1 := 1) (n1 := 6) (by omega) (by omega) ?_
      exact G.lret E dL_potential_15 rfl rfl
    · exact GX.no
abbrev rm_L_current : Room := { frames := 17, cells := 1, slots := 6, locals := 426 }
noncomputable def f_L_current (N : Nat) (γ : Wd) (a1 : Int32) (a2 : Int32) : Option (Int64 × Wd) :=
  bH (f_X7_current N γ a1 a2) (fun v1 s2 =>
    some (v1, s2)) (fun q s3 =>
    if q = 1 then (
      some ((-9200000000000000001), s3))
    else (
      none))
set_option maxHeartbeats 4000000 in
set_option maxRecDepth 100000 in
theorem c_L_current {l : Launch} {D : va_G} {cy : Nat → ClassId} {h : Nat → Nat} {N : Nat} {γ : Wd} {ν : Wd} {a1 : Int32} {a2 : Int32} {r : Int64} {γ1 : Wd} (hW : WF (wsL cy h) (adL h)) (hfl : l.stackTraces = false) (hr : f_L_current N γ a1 a2 = some (r, γ1)) : Con l D cy (wsL cy h) (adL h) yL_current wsL_current rm_L_current 1 6 [.ref (h 0), .int a1, .int a2] (some (.long r)) (γ, ν) (γ1, ν) := by
  refine Con.ofH (ρ := Int64 × Wd) (lv0 := [(0, .ref (h 0)), (1, .int a1), (2, .int a2)]) (σ := (γ, ν)) (mc := 1) (ms := 6) (fun r : Int64 × Wd => some (.long r.1)) (fun r => (r.2, ν)) (by decide) rfl rfl (Nat.le_of_ble_eq_true rfl) rfl hW hr (fun p e s m args below meth c E htab => ?_)
  unfold f_L_current
  refine G.aload_n E dL_current_0 0 rfl rfl ?_
  refine G.iload_n E dL_current_1 1 rfl rfl ?_
  refine G.iload_n E dL_current_2 2 rfl rfl ?_
  refine G.callHlW (mc1 := 1) (ms1 := 6) (rm := rm_X7_current) (n := 2) (T := TX7) (N := 7) (C := RX7) (a := h 0) (q0 := 0) (As := [.int a1, .int a2]) (fun x => (x, ν)) E dL_current_3 (fun r hr => ConX.inC E.wf (c_X7_current (wfL_C E.wf) hfl hr)) gL_current_X7_current rfl rfl rfl (by decide +kernel) ⟨Nat.le_of_ble_eq_true rfl, Nat.le_of_ble_eq_true rfl⟩ ((wsL_at0 _ _ _).trans (wsC_at0 _ _ _)) rfl rfl (Nat.le_of_ble_eq_true rfl) ⟨by show _ ≤ 1; omega, by show _ ≤ 6; omega⟩ (fun v1 s2 => ?_) (fun q s3 => ?_)
  · refine G.lstore_n (lv' := [(3, .long v1), (0, .ref (h 0)), (1, .int a1), (2, .int a2)]) E dL_current_6 rfl (by decide) rfl ?_
    refine G.goto (tgt := 16) E dL_current_7 (by decide) ?_
    refine G.lload_n E dL_current_16 0 rfl rfl ?_
    refine G.widen (k1 := 1) (n1 := 6) (by omega) (by omega) ?_
    exact G.lret E dL_current_17 rfl rfl
  · refine GX.on (fun hq => ?_) (fun hq => ?_)
    · subst hq
      refine GX.catch (name := "java/lang/IndexOutOfBoundsException") E htab [] ⟨0, 7, 10, 20⟩ [] rfl (fun z hz => nomatch hz) (by decide) (by decide) (List.mem_of_getElem? (i := 1) rfl) (by decide +kernel) (fun a => ?_)
      refine G.astore (lv' := [(5, .ref a), (0, .ref (h 0)), (1, .int a1), (2, .int a2)]) E dL_current_10 (by decide) rfl ?_
      refine G.ldc2w (v := -9200000000000000001) E dL_current_12 (List.mem_of_getElem? (i := 2) rfl) ?_
      refine G.widen (k1 := 1) (n1 := 6) (by omega) (by omega) ?_
      exact G.lret E dL_current_15 rfl rfl
    · exact GX.no
abbrev rm_L_distance : Room := { frames := 17, cells := 2, slots := 12, locals := 423 }
noncomputable def f_L_distance (N : Nat) (γ : Wd) (a1 : Int32) (a2 : Int32) (a3 : Int32) : Option (Int64 × Wd) :=
  bH (f_X7_distance N γ a1 a2 a3) (fun v1 s2 =>
    some (v1, s2)) (fun q s3 =>
    if q = 1 then (
      some ((-9200000000000000001), s3))
    else (
      none))
set_option maxHeartbeats 4000000 in
set_option maxRecDepth 100000 in
theorem c_L_distance {l : Launch} {D : va_G} {cy : Nat → ClassId} {h : Nat → Nat} {N : Nat} {γ : Wd} {ν : Wd} {a1 : Int32} {a2 : Int32} {a3 : Int32} {r : Int64} {γ1 : Wd} (hW : WF (wsL cy h) (adL h)) (hfl : l.stackTraces = false) (hr : f_L_distance N γ a1 a2 a3 = some (r, γ1)) : Con l D cy (wsL cy h) (adL h) yL_distance wsL_distance rm_L_distance 2 12 [.ref (h 0), .int a1, .int a2, .int a3] (some (.long r)) (γ, ν) (γ1, ν) := by
  refine Con.ofH (ρ := Int64 × Wd) (lv0 := [(0, .ref (h 0)), (1, .int a1), (2, .int a2), (3, .int a3)]) (σ := (γ, ν)) (mc := 2) (ms := 12) (fun r : Int64 × Wd => some (.long r.1)) (fun r => (r.2, ν)) (by decide) rfl rfl (Nat.le_of_ble_eq_true rfl) rfl hW hr (fun p e s m args below meth c E htab => ?_)
  unfold f_L_distance
  refine G.aload_n E dL_distance_0 0 rfl rfl ?_
  refine G.iload_n E dL_distance_1 1 rfl rfl ?_
  refine G.iload_n E dL_distance_2 2 rfl rfl ?_
  refine G.iload_n E dL_distance_3 3 rfl rfl ?_
  refine G.callHlW (mc1 := 2) (ms1 := 12) (rm := rm_X7_distance) (n := 3) (T := TX7) (N := 7) (C := RX7) (a := h 0) (q0 := 0) (As := [.int a1, .int a2, .int a3]) (fun x => (x, ν)) E dL_distance_4 (fun r hr => ConX.inC E.wf (c_X7_distance (wfL_C E.wf) hfl hr)) gL_distance_X7_distance rfl rfl rfl (by decide +kernel) ⟨Nat.le_of_ble_eq_true rfl, Nat.le_of_ble_eq_true rfl⟩ ((wsL_at0 _ _ _).trans (wsC_at0 _ _ _)) rfl rfl (Nat.le_of_ble_eq_true rfl) ⟨by show _ ≤ 2; omega, by show _ ≤ 12; omega⟩ (fun v1 s2 => ?_) (fun q s3 => ?_)
  · refine G.lstore (lv' := [(4, .long v1), (0, .ref (h 0)), (1, .int a1), (2, .int a2), (3, .int a3)]) E dL_distance_7 (by decide) rfl ?_
    refine G.goto (tgt := 18) E dL_distance_9 (by decide) ?_
    refine G.lload E dL_distance_18 0 rfl ?_
    refine G.widen (k1 := 2) (n1 := 12) (by omega) (by omega) ?_
    exact G.lret E dL_distance_20 rfl rfl
  · refine GX.on (fun hq => ?_) (fun hq => ?_)
    · subst hq
      refine GX.catch (name := "java/lang/IndexOutOfBoundsException") E htab [] ⟨0, 9, 12, 20⟩ [] rfl (fun z hz => nomatch hz) (by decide) (by decide) (List.mem_of_getElem? (i := 1) rfl) (by decide +kernel) (fun a => ?_)
      refine G.astore (lv' := [(6, .ref a), (0, .ref (h 0)), (1, .int a1), (2, .int a2), (3, .int a3)]) E dL_distance_12 (by decide) rfl ?_
      refine G.ldc2w (v := -9200000000000000001) E dL_distance_14 (List.mem_of_getElem? (i := 2) rfl) ?_
      refine G.widen (k1 := 2) (n1 := 12) (by omega) (by omega) ?_
      exact G.lret E dL_distance_17 rfl rfl
    · exact GX.no
abbrev rm_L_chance : Room := { frames := 16, cells := 4, slots := 24, locals := 404 }
noncomputable def f_L_chance (N : Nat) (γ : Wd) (a1 : Int32) (a2 : Int32) (a3 : Int32) (a4 : Int32) : Option (Int64 × Wd) :=
  bH (f_X7_chance N γ a1 a2 a3 a4) (fun v1 s2 =>
    some (v1, s2)) (fun q s3 =>
    if q = 1 then (
      some ((-9200000000000000001), s3))
    else (
      if q = 2 then (
        some ((-9200000000000000002), s3))
      else (
        none)))
set_option maxHeartbeats 4000000 in
set_option maxRecDepth 100000 in
theorem c_L_chance {l : Launch} {D : va_G} {cy : Nat → ClassId} {h : Nat → Nat} {N : Nat} {γ : Wd} {ν : Wd} {a1 : Int32} {a2 : Int32} {a3 : Int32} {a4 : Int32} {r : Int64} {γ1 : Wd} (hW : WF (wsL cy h) (adL h)) (hfl : l.stackTraces = false) (hr : f_L_chance N γ a1 a2 a3 a4 = some (r, γ1)) : Con l D cy (wsL cy h) (adL h) yL_chance wsL_chance rm_L_chance 4 24 [.ref (h 0), .int a1, .int a2, .int a3, .int a4] (some (.long r)) (γ, ν) (γ1, ν) := by
  refine Con.ofH (ρ := Int64 × Wd) (lv0 := [(0, .ref (h 0)), (1, .int a1), (2, .int a2), (3, .int a3), (4, .int a4)]) (σ := (γ, ν)) (mc := 4) (ms := 24) (fun r : Int64 × Wd => some (.long r.1)) (fun r => (r.2, ν)) (by decide) rfl rfl (Nat.le_of_ble_eq_true rfl) rfl hW hr (fun p e s m args below meth c E htab => ?_)
  unfold f_L_chance
  refine G.aload_n E dL_chance_0 0 rfl rfl ?_
  refine G.iload_n E dL_chance_1 1 rfl rfl ?_
  refine G.iload_n E dL_chance_2 2 rfl rfl ?_
  refine G.iload_n E dL_chance_3 3 rfl rfl ?_
  refine G.iload E dL_chance_4 4 rfl ?_
  refine G.callHlW (mc1 := 4) (ms1 := 24) (rm := rm_X7_chance) (n := 4) (T := TX7) (N := 7) (C := RX7) (a := h 0) (q0 := 0) (As := [.int a1, .int a2, .int a3, .int a4]) (fun x => (x, ν)) E dL_chance_6 (fun r hr => ConX.inC E.wf (c_X7_chance (wfL_C E.wf) hfl hr)) gL_chance_X7_chance rfl rfl rfl (by decide +kernel) ⟨Nat.le_of_ble_eq_true rfl, Nat.le_of_ble_eq_true rfl⟩ ((wsL_at0 _ _ _).trans (wsC_at0 _ _ _)) rfl rfl (Nat.le_of_ble_eq_true rfl) ⟨by show _ ≤ 4; omega, by show _ ≤ 24; omega⟩ (fun v1 s2 => ?_) (fun q s3 => ?_)
  · refine G.lstore (lv' := [(5, .long v1), (0, .ref (h 0)), (1, .int a1), (2, .int a2), (3, .int a3), (4, .int a4)]) E dL_chance_9 (by decide) rfl ?_
    refine G.goto (tgt := 26) E dL_chance_11 (by decide) ?_
    refine G.lload E dL_chance_26 0 rfl ?_
    refine G.widen (k1 := 4) (n1 := 24) (by omega) (by omega) ?_
    exact G.lret E dL_chance_28 rfl rfl
  · refine GX.on (fun hq => ?_) (fun hq => ?_)
    · subst hq
      refine GX.catch (name := "java/lang/IndexOutOfBoundsException") E htab [] ⟨0, 11, 14, 20⟩ [⟨0, 11, 20, 22⟩] rfl (fun z hz => nomatch hz) (by decide) (by decide) (List.mem_of_getElem? (i := 1) rfl) (by decide +kernel) (fun a => ?_)
      refine G.astore (lv' := [(7, .ref a), (0, .ref (h 0)), (1, .int a1), (2, .int a2), (3, .int a3), (4, .int a4)]) E dL_chance_14 (by decide) rfl ?_
      refine G.ldc2w (v := -9200000000000000001) E dL_chance_16 (List.mem_of_getElem? (i := 3) rfl) ?_
      refine G.widen (k1 := 4) (n1 := 24) (by omega) (by omega) ?_
      exact G.lret E dL_chance_19 rfl rfl
    · refine GX.on (fun hq => ?_) (fun hq => ?_)
      · subst hq
        refine GX.catch (name := "java/lang/IllegalArgumentException") E htab [⟨0, 11, 14, 20⟩] ⟨0, 11, 20, 22⟩ [] rfl (fun z hz => by cases List.mem_singleton.mp hz; exact ⟨by decide, "java/lang/IndexOutOfBoundsException", (List.mem_of_getElem? (i := 1) rfl), by decide +kernel⟩) (by decide) (by decide) (List.mem_of_getElem? (i := 2) rfl) (by decide +kernel) (fun a => ?_)
        refine G.astore (lv' := [(7, .ref a), (0, .ref (h 0)), (1, .int a1), (2, .int a2), (3, .int a3), (4, .int a4)]) E dL_chance_20 (by decide) rfl ?_
        refine G.ldc2w (v := -9200000000000000002) E dL_chance_22 (List.mem_of_getElem? (i := 4) rfl) ?_
        refine G.widen (k1 := 4) (n1 := 24) (by omega) (by omega) ?_
        exact G.lret E dL_chance_25 rfl rfl
      · exact GX.no
abbrev rm_L_starred : Room := { frames := 17, cells := 1, slots := 6, locals := 426 }
noncomputable def f_L_starred (N : Nat) (γ : Wd) (a1 : Int32) (a2 : Int32) : Option (Int64 × Wd) :=
  bH (f_X7_starred N γ a1 a2) (fun v1 s2 =>
    some (v1, s2)) (fun q s3 =>
    if q = 1 then (
      some ((-9200000000000000001), s3))
    else (
      none))
set_option maxHeartbeats 4000000 in
set_option maxRecDepth 100000 in
theorem c_L_starred {l : Launch} {D : va_G} {cy : Nat → ClassId} {h : Nat → Nat} {N : Nat} {γ : Wd} {ν : Wd} {a1 : Int32} {a2 : Int32} {r : Int64} {γ1 : Wd} (hW : WF (wsL cy h) (adL h)) (hfl : l.stackTraces = false) (hr : f_L_starred N γ a1 a2 = some (r, γ1)) : Con l D cy (wsL cy h) (adL h) yL_starred wsL_starred rm_L_starred 1 6 [.ref (h 0), .int a1, .int a2] (some (.long r)) (γ, ν) (γ1, ν) := by
  refine Con.ofH (ρ := Int64 × Wd) (lv0 := [(0, .ref (h 0)), (1, .int a1), (2, .int a2)]) (σ := (γ, ν)) (mc := 1) (ms := 6) (fun r : Int64 × Wd => some (.long r.1)) (fun r => (r.2, ν)) (by decide) rfl rfl (Nat.le_of_ble_eq_true rfl) rfl hW hr (fun p e s m args below meth c E htab => ?_)
  unfold f_L_starred
  refine G.aload_n E dL_starred_0 0 rfl rfl ?_
  refine G.iload_n E dL_starred_1 1 rfl rfl ?_
  refine G.iload_n E dL_starred_2 2 rfl rfl ?_
  refine G.callHlW (mc1 := 1) (ms1 := 6) (rm := rm_X7_starred) (n := 2) (T := TX7) (N := 7) (C := RX7) (a := h 0) (q0 := 0) (As := [.int a1, .int a2]) (fun x => (x, ν)) E dL_starred_3 (fun r hr => ConX.inC E.wf (c_X7_starred (wfL_C E.wf) hfl hr)) gL_starred_X7_starred rfl rfl rfl (by decide +kernel) ⟨Nat.le_of_ble_eq_true rfl, Nat.le_of_ble_eq_true rfl⟩ ((wsL_at0 _ _ _).trans (wsC_at0 _ _ _)) rfl rfl (Nat.le_of_ble_eq_true rfl) ⟨by show _ ≤ 1; omega, by show _ ≤ 6; omega⟩ (fun v1 s2 => ?_) (fun q s3 => ?_)
  · refine G.lstore_n (lv' := [(3, .long v1), (0, .ref (h 0)), (1, .int a1), (2, .int a2)]) E dL_starred_6 rfl (by decide) rfl ?_
    refine G.goto (tgt := 16) E dL_starred_7 (by decide) ?_
    refine G.lload_n E dL_starred_16 0 rfl rfl ?_
    refine G.widen (k1 := 1) (n1 := 6) (by omega) (by omega) ?_
    exact G.lret E dL_starred_17 rfl rfl
  · refine GX.on (fun hq => ?_) (fun hq => ?_)
    · subst hq
      refine GX.catch (name := "java/lang/IndexOutOfBoundsException") E htab [] ⟨0, 7, 10, 20⟩ [] rfl (fun z hz => nomatch hz) (by decide) (by decide) (List.mem_of_getElem? (i := 1) rfl) (by decide +kernel) (fun a => ?_)
      refine G.astore (lv' := [(5, .ref a), (0, .ref (h 0)), (1, .int a1), (2, .int a2)]) E dL_starred_10 (by decide) rfl ?_
      refine G.ldc2w (v := -9200000000000000001) E dL_starred_12 (List.mem_of_getElem? (i := 2) rfl) ?_
      refine G.widen (k1 := 1) (n1 := 6) (by omega) (by omega) ?_
      exact G.lret E dL_starred_15 rfl rfl
    · exact GX.no
abbrev rm_L_move : Room := { frames := 11, cells := 3, slots := 18, locals := 185 }
noncomputable def f_L_move (N : Nat) (γ : Wd) (a1 : Int32) (a2 : Int32) : Option (Int32 × Wd) :=
  bH (f_X7_move N γ a1 a2) (fun v1 s2 =>
    some (0, s2)) (fun q s3 =>
    if q = 1 then (
      some ((-7100), s3))
    else (
      if q = 2 then (
        some ((-7200), s3))
      else (
        if q = 3 then (
          some ((-7300), s3))
        else (
          none))))
set_option maxHeartbeats 4000000 in
set_option maxRecDepth 100000 in
theorem c_L_move {l : Launch} {D : va_G} {cy : Nat → ClassId} {h : Nat → Nat} {N : Nat} {γ : Wd} {ν : Wd} {a1 : Int32} {a2 : Int32} {r : Int32} {γ1 : Wd} (hW : WF (wsL cy h) (adL h)) (hfl : l.stackTraces = false) (hr : f_L_move N γ a1 a2 = some (r, γ1)) : Con l D cy (wsL cy h) (adL h) yL_move wsL_move rm_L_move 3 18 [.ref (h 0), .int a1, .int a2] (some (.int r)) (γ, ν) (γ1, ν) := by
  refine Con.ofH (ρ := Int32 × Wd) (lv0 := [(0, .ref (h 0)), (1, .int a1), (2, .int a2)]) (σ := (γ, ν)) (mc := 3) (ms := 18) (fun r : Int32 × Wd => some (.int r.1)) (fun r => (r.2, ν)) (by decide) rfl rfl (Nat.le_of_ble_eq_true rfl) rfl hW hr (fun p e s m args below meth c E htab => ?_)
  unfold f_L_move
  refine G.aload_n E dL_move_0 0 rfl rfl ?_
  refine G.iload_n E dL_move_1 1 rfl rfl ?_
  refine G.iload_n E dL_move_2 2 rfl rfl ?_
  refine G.callHvW (mc1 := 3) (ms1 := 18) (rm := rm_X7_move) (n := 2) (T := TX7) (N := 7) (C := RX7) (a := h 0) (q0 := 0) (As := [.int a1, .int a2]) (fun x => (x, ν)) E dL_move_3 (fun r hr => ConX.inC E.wf (c_X7_move (wfL_C E.wf) hfl hr)) gL_move_X7_move rfl rfl rfl (by decide +kernel) ⟨Nat.le_of_ble_eq_true rfl, Nat.le_of_ble_eq_true rfl⟩ ((wsL_at0 _ _ _).trans (wsC_at0 _ _ _)) rfl rfl (Nat.le_of_ble_eq_true rfl) ⟨by show _ ≤ 3; omega, by show _ ≤ 18; omega⟩ (fun v1 s2 => ?_) (fun q s3 => ?_)
  · refine G.goto (tgt := 24) E dL_move_6 (by decide) ?_
    refine G.iconst (v := 0) E dL_move_24 (by decide) ?_
    refine G.widen (k1 := 3) (n1 := 18) (by omega) (by omega) ?_
    exact G.iret E dL_move_25 rfl rfl
  · refine GX.on (fun hq => ?_) (fun hq => ?_)
    · subst hq
      refine GX.catch (name := "java/lang/IndexOutOfBoundsException") E htab [] ⟨0, 6, 9, 20⟩ [⟨0, 6, 14, 22⟩, ⟨0, 6, 19, 14⟩] rfl (fun z hz => nomatch hz) (by decide) (by decide) (List.mem_of_getElem? (i := 1) rfl) (by decide +kernel) (fun a => ?_)
      refine G.astore_n (lv' := [(3, .ref a), (0, .ref (h 0)), (1, .int a1), (2, .int a2)]) E dL_move_9 rfl (by decide) rfl ?_
      refine G.sipush (v := (-7100)) E dL_move_10 (by decide) ?_
      refine G.widen (k1 := 3) (n1 := 18) (by omega) (by omega) ?_
      exact G.iret E dL_move_13 rfl rfl
    · refine GX.on (fun hq => ?_) (fun hq => ?_)
      · subst hq
        refine GX.catch (name := "java/lang/IllegalArgumentException") E htab [⟨0, 6, 9, 20⟩] ⟨0, 6, 14, 22⟩ [⟨0, 6, 19, 14⟩] rfl (fun z hz => by cases List.mem_singleton.mp hz; exact ⟨by decide, "java/lang/IndexOutOfBoundsException", (List.mem_of_getElem? (i := 1) rfl), by decide +kernel⟩) (by decide) (by decide) (List.mem_of_getElem? (i := 2) rfl) (by decide +kernel) (fun a => ?_)
        refine G.astore_n (lv' := [(3, .ref a), (0, .ref (h 0)), (1, .int a1), (2, .int a2)]) E dL_move_14 rfl (by decide) rfl ?_
        refine G.sipush (v := (-7200)) E dL_move_15 (by decide) ?_
        refine G.widen (k1 := 3) (n1 := 18) (by omega) (by omega) ?_
        exact G.iret E dL_move_18 rfl rfl
      · refine GX.on (fun hq => ?_) (fun hq => ?_)
        · subst hq
          refine GX.catch (name := "java/lang/IllegalStateException") E htab [⟨0, 6, 9, 20⟩, ⟨0, 6, 14, 22⟩] ⟨0, 6, 19, 14⟩ [] rfl (fun z hz => by simp only [List.mem_cons, List.not_mem_nil, or_false] at hz; rcases hz with rfl | rfl; exact ⟨by decide, "java/lang/IndexOutOfBoundsException", (List.mem_of_getElem? (i := 1) rfl), by decide +kernel⟩; exact ⟨by decide, "java/lang/IllegalArgumentException", (List.mem_of_getElem? (i := 2) rfl), by decide +kernel⟩) (by decide) (by decide) (List.mem_of_getElem? (i := 3) rfl) (by decide +kernel) (fun a => ?_)
          refine G.astore_n (lv' := [(3, .ref a), (0, .ref (h 0)), (1, .int a1), (2, .int a2)]) E dL_move_19 rfl (by decide) rfl ?_
          refine G.sipush (v := (-7300)) E dL_move_20 (by decide) ?_
          refine G.widen (k1 := 3) (n1 := 18) (by omega) (by omega) ?_
          exact G.iret E dL_move_23 rfl rfl
        · exact GX.no
abbrev rm_L_undo : Room := { frames := 9, cells := 1, slots := 6, locals := 140 }
noncomputable def f_L_undo (N : Nat) (γ : Wd) : Option (Int32 × Wd) :=
  bH (f_X7_undo N γ) (fun v1 s2 =>
    some (v1, s2)) (fun q s3 =>
    if q = 3 then (
      some ((-7300), s3))
    else (
      none))
set_option maxHeartbeats 4000000 in
set_option maxRecDepth 100000 in
theorem c_L_undo {l : Launch} {D : va_G} {cy : Nat → ClassId} {h : Nat → Nat} {N : Nat} {γ : Wd} {ν : Wd} {r : Int32} {γ1 : Wd} (hW : WF (wsL cy h) (adL h)) (hfl : l.stackTraces = false) (hr : f_L_undo N γ = some (r, γ1)) : Con l D cy (wsL cy h) (adL h) yL_undo wsL_undo rm_L_undo 1 6 [.ref (h 0)] (some (.int r)) (γ, ν) (γ1, ν) := by
  refine Con.ofH (ρ := Int32 × Wd) (lv0 := [(0, .ref (h 0))]) (σ := (γ, ν)) (mc := 1) (ms := 6) (fun r : Int32 × Wd => some (.int r.1)) (fun r => (r.2, ν)) (by decide) rfl rfl (Nat.le_of_ble_eq_true rfl) rfl hW hr (fun p e s m args below meth c E htab => ?_)
  unfold f_L_undo
  refine G.aload_n E dL_undo_0 0 rfl rfl ?_
  refine G.callHiW (mc1 := 1) (ms1 := 6) (rm := rm_X7_undo) (n := 0) (T := TX7) (N := 7) (C := RX7) (a := h 0) (q0 := 0) (As := []) (fun x => (x, ν)) E dL_undo_1 (fun r hr => ConX.inC E.wf (c_X7_undo (wfL_C E.wf) hfl hr)) gL_undo_X7_undo rfl rfl rfl (by decide +kernel) ⟨Nat.le_of_ble_eq_true rfl, Nat.le_of_ble_eq_true rfl⟩ ((wsL_at0 _ _ _).trans (wsC_at0 _ _ _)) rfl rfl (Nat.le_of_ble_eq_true rfl) ⟨by show _ ≤ 1; omega, by show _ ≤ 6; omega⟩ (fun v1 s2 => ?_) (fun q s3 => ?_)
  · refine G.istore_n (lv' := [(1, .int v1), (0, .ref (h 0))]) E dL_undo_4 rfl (by decide) rfl ?_
    refine G.goto (tgt := 13) E dL_undo_5 (by decide) ?_
    refine G.iload_n E dL_undo_13 0 rfl rfl ?_
    refine G.widen (k1 := 1) (n1 := 6) (by omega) (by omega) ?_
    exact G.iret E dL_undo_14 rfl rfl
  · refine GX.on (fun hq => ?_) (fun hq => ?_)
    · subst hq
      refine GX.catch (name := "java/lang/IllegalStateException") E htab [] ⟨0, 5, 8, 14⟩ [] rfl (fun z hz => nomatch hz) (by decide) (by decide) (List.mem_of_getElem? (i := 1) rfl) (by decide +kernel) (fun a => ?_)
      refine G.astore_n (lv' := [(2, .ref a), (0, .ref (h 0))]) E dL_undo_8 rfl (by decide) rfl ?_
      refine G.sipush (v := (-7300)) E dL_undo_9 (by decide) ?_
      refine G.widen (k1 := 1) (n1 := 6) (by omega) (by omega) ?_
      exact G.iret E dL_undo_12 rfl rfl
    · exact GX.no
end TR
