section TR
variable {p : Program} {l : Launch} {e : Env} {s : State} {m : MethodId} {args : Array Value} {below : List Frame} {meth : Method} {c : Code} {D : va_G} {cy : Nat → ClassId} {h : Nat → Nat}

abbrev rm_L_wiresOf : Room := { frames := 0, cells := 0, slots := 0, locals := 0 }
noncomputable def fl_L_wiresOf_6 {ρ : Type} (N : Nat) (ν : Wd) (x0 : Int32) (K : Int32 → Option (ρ)) : Nat → Int32 → Int32 → Option (ρ)
  | 0, _, _ => none
  | n + 1, x4, x5 =>
    rI ν 0 6 3 fun v1 =>
    if v1 ≤ x5 then (
      K x4)
    else (
      rI ν 0 6 4 fun v2 =>
      jn (fun (v3 : Int32) => ((
        fl_L_wiresOf_6 N ν x0 K n v3 (x5 + 1)) : Option (ρ))) fun j51 =>
      if ((v2 >>> (x5 &&& 31)) &&& 1) = 1 then (
        rI ν 1 20 x5 fun v4 =>
        jn (fun (_u : Unit) => ((
          lI (x4 ||| (1 <<< (x5 &&& 31))) fun v5 =>
          j51 v5) : Option (ρ))) fun j42 =>
        if v4 = x0 then (
          j42 ())
        else (
          rI ν 2 20 x5 fun v6 =>
          if v6 = x0 then (
            j42 ())
          else (
            j51 x4)))
      else (
        j51 x4))
set_option maxHeartbeats 4000000 in
set_option maxRecDepth 100000 in
theorem gl_L_wiresOf_6 {ρ : Type} {Q : ρ → State → Prop} {N : Nat} {ν : Wd} {x0 : Int32} {cb sb : Nat} {K : Int32 → Option (ρ)} (E : EV p s m args meth c cL_wiresOf 6 RL wsL_wiresOf (some .int) D cy (wsN cy h) (adN h)) (hcb : cb ≤ 0) (hsb : sb ≤ 0) (hK : ∀ (x4' : Int32), G p l e (headSpec wsL_wiresOf rm_L_wiresOf).room s m args below meth c 6 cb sb D (wsN cy h) (adN h) Q 57 [(4, .int (x4'))] [] ν (K x4')) :
  ∀ (n : Nat), ∀ (x4 : Int32) (x5 : Int32), G p l e (headSpec wsL_wiresOf rm_L_wiresOf).room s m args below meth c 6 cb sb D (wsN cy h) (adN h) Q 6 [(0, .int x0), (1, .ref (h 0)), (2, .ref (h 1)), (3, .ref (h 2)), (4, .int x4), (5, .int x5)] [] ν (fl_L_wiresOf_6 N ν x0 K n x4 x5) := by
  intro n
  induction n with
  | zero => intros; exact G.no
  | succ n ih =>
    intro x4 x5
    rw [fl_L_wiresOf_6]
    refine G.iload E dL_wiresOf_6 5 rfl ?_
    refine G.aload_n E dL_wiresOf_8 1 rfl rfl ?_
    refine G.iconst (v := 3) E dL_wiresOf_9 (by decide) ?_
    refine G.ialdW (q0 := 0) (p0 := 0) (n := 6) ν E dL_wiresOf_10 (wsN_at0 _ _ _) (fun v1 => ?_)
    refine G.icmp_ge (tgt := 57) E dL_wiresOf_11 (by decide) ?_ ?_
    · refine G.widen (k1 := cb) (n1 := sb) (by omega) (by omega) ?_
      refine G.loc [4] rfl ?_
      exact hK x4
    · refine G.aload_n E dL_wiresOf_14 1 rfl rfl ?_
      refine G.iconst (v := 4) E dL_wiresOf_15 (by decide) ?_
      refine G.ialdW (q0 := 0) (p0 := 0) (n := 6) ν E dL_wiresOf_16 (wsN_at0 _ _ _) (fun v2 => ?_)
      refine G.iload E dL_wiresOf_17 5 rfl ?_
      refine G.ishr E dL_wiresOf_19 ?_
      refine G.iconst (v := 1) E dL_wiresOf_20 (by decide) ?_
      refine G.iand E dL_wiresOf_21 ?_
      refine G.iconst (v := 1) E dL_wiresOf_22 (by decide) ?_
      refine G.jn (P := fun j => ∀ (v3 : Int32), G p l e (headSpec wsL_wiresOf rm_L_wiresOf).room s m args below meth c 6 cb sb D (wsN cy h) (adN h) Q 51 [(0, .int x0), (1, .ref (h 0)), (2, .ref (h 1)), (3, .ref (h 2)), (4, .int v3), (5, .int x5)] [] ν (j v3)) ?_ (fun j51 hj51 => ?_)
      · intro v3
        refine G.iinc (v := x5 + 1) (lv' := [(5, .int (x5 + 1)), (0, .int x0), (1, .ref (h 0)), (2, .ref (h 1)), (3, .ref (h 2)), (4, .int v3)]) E dL_wiresOf_51 5 rfl rfl (by decide) rfl ?_
        refine G.goto (tgt := 6) E dL_wiresOf_54 (by decide) ?_
        refine G.widen (k1 := cb) (n1 := sb) (by omega) (by omega) ?_
        refine G.loc [1, 2, 3, 4, 5, 0] rfl ?_
        exact ih v3 (x5 + 1)
      · refine G.icmp_ne (tgt := 51) E dL_wiresOf_23 (by decide) ?_ ?_
        · refine G.aload_n E dL_wiresOf_26 2 rfl rfl ?_
          refine G.iload E dL_wiresOf_27 5 rfl ?_
          refine G.ialdW (q0 := 1) (p0 := 1) (n := 20) ν E dL_wiresOf_29 (wsN_at1 _ _ _) (fun v4 => ?_)
          refine G.iload_n E dL_wiresOf_30 0 rfl rfl ?_
          refine G.jn (P := fun j => ∀ (_u : Unit), G p l e (headSpec wsL_wiresOf rm_L_wiresOf).room s m args below meth c 6 cb sb D (wsN cy h) (adN h) Q 42 [(0, .int x0), (1, .ref (h 0)), (2, .ref (h 1)), (3, .ref (h 2)), (4, .int x4), (5, .int x5)] [] ν (j _u)) ?_ (fun j42 hj42 => ?_)
          · intro _u
            refine G.iload E dL_wiresOf_42 4 rfl ?_
            refine G.iconst (v := 1) E dL_wiresOf_44 (by decide) ?_
            refine G.iload E dL_wiresOf_45 5 rfl ?_
            refine G.ishl E dL_wiresOf_47 ?_
            refine G.ior E dL_wiresOf_48 ?_
            refine G.letI (fun v5 => ?_)
            refine G.istore (lv' := [(4, .int v5), (0, .int x0), (1, .ref (h 0)), (2, .ref (h 1)), (3, .ref (h 2)), (5, .int x5)]) E dL_wiresOf_49 (by decide) rfl ?_
            refine G.widen (k1 := cb) (n1 := sb) (by omega) (by omega) ?_
            refine G.loc [1, 2, 3, 4, 0, 5] rfl ?_
            exact hj51 v5
          · refine G.icmp_eq (tgt := 42) E dL_wiresOf_31 (by decide) ?_ ?_
            · refine G.widen (k1 := cb) (n1 := sb) (by omega) (by omega) ?_
              refine G.loc [0, 1, 2, 3, 4, 5] rfl ?_
              exact hj42 ()
            · refine G.aload_n E dL_wiresOf_34 3 rfl rfl ?_
              refine G.iload E dL_wiresOf_35 5 rfl ?_
              refine G.ialdW (q0 := 2) (p0 := 2) (n := 20) ν E dL_wiresOf_37 (wsN_at2 _ _ _) (fun v6 => ?_)
              refine G.iload_n E dL_wiresOf_38 0 rfl rfl ?_
              refine G.icmp_ne (tgt := 51) E dL_wiresOf_39 (by decide) ?_ ?_
              · refine G.widen (k1 := cb) (n1 := sb) (by omega) (by omega) ?_
                refine G.loc [0, 1, 2, 3, 4, 5] rfl ?_
                exact hj42 ()
              · refine G.widen (k1 := cb) (n1 := sb) (by omega) (by omega) ?_
                refine G.loc [0, 1, 2, 3, 4, 5] rfl ?_
                exact hj51 x4
        · refine G.widen (k1 := cb) (n1 := sb) (by omega) (by omega) ?_
          refine G.loc [0, 1, 2, 3, 4, 5] rfl ?_
          exact hj51 x4
noncomputable def f_L_wiresOf (N : Nat) (ν : Wd) (a0 : Int32) : Option (Int32) :=
  fl_L_wiresOf_6 N ν a0 (fun v7 =>
    some v7) N 0 0
set_option maxHeartbeats 4000000 in
set_option maxRecDepth 100000 in
theorem c_L_wiresOf {l : Launch} {D : va_G} {cy : Nat → ClassId} {h : Nat → Nat} {N : Nat} {ν : Wd} {a0 : Int32} {r : Int32} (hW : WF (wsN cy h) (adN h)) (hr : f_L_wiresOf N ν a0 = some r) : Con l D cy (wsN cy h) (adN h) yL_wiresOf wsL_wiresOf rm_L_wiresOf 0 0 [.int a0, .ref (h 0), .ref (h 1), .ref (h 2)] (some (.int r)) ν ν := by
  refine Con.ofM (ρ := Int32) (lv0 := [(0, .int a0), (1, .ref (h 0)), (2, .ref (h 1)), (3, .ref (h 2))]) (σ := ν) (mc := 0) (ms := 0) (fun r : Int32 => some (.int r)) (fun _ => ν) (by decide) rfl rfl (Nat.le_of_ble_eq_true rfl) rfl hW hr (fun p e s m args below meth c E => ?_)
  unfold f_L_wiresOf
  refine G.iconst (v := 0) E dL_wiresOf_0 (by decide) ?_
  refine G.istore (lv' := [(4, .int 0), (0, .int a0), (1, .ref (h 0)), (2, .ref (h 1)), (3, .ref (h 2))]) E dL_wiresOf_1 (by decide) rfl ?_
  refine G.iconst (v := 0) E dL_wiresOf_3 (by decide) ?_
  refine G.istore (lv' := [(5, .int 0), (4, .int 0), (0, .int a0), (1, .ref (h 0)), (2, .ref (h 1)), (3, .ref (h 2))]) E dL_wiresOf_4 (by decide) rfl ?_
  refine G.widen (k1 := 0) (n1 := 0) (by omega) (by omega) ?_
  refine G.loc [2, 3, 4, 5, 1, 0] rfl ?_
  refine gl_L_wiresOf_6 (cb := 0) (sb := 0) E (by omega) (by omega) (fun v7 => ?_) N _ _
  refine G.iload E dL_wiresOf_57 0 rfl ?_
  refine G.widen (k1 := 0) (n1 := 0) (by omega) (by omega) ?_
  exact G.iret E dL_wiresOf_59 rfl rfl
abbrev rm_L_lowest : Room := { frames := 0, cells := 0, slots := 0, locals := 0 }
noncomputable def fl_L_lowest_2 {ρ : Type} (N : Nat) (x0 : Int32) (K : Int32 → Option (ρ)) : Nat → Int32 → Option (ρ)
  | 0, _ => none
  | n + 1, x1 =>
    if ((x0 >>> (x1 &&& 31)) &&& 1) = 0 then (
      fl_L_lowest_2 N x0 K n (x1 + 1))
    else (
      K x1)
set_option maxHeartbeats 4000000 in
set_option maxRecDepth 100000 in
theorem gl_L_lowest_2 {ρ : Type} {Q : ρ → State → Prop} {N : Nat} {ν : Wd} {x0 : Int32} {cb sb : Nat} {K : Int32 → Option (ρ)} (E : EV p s m args meth c cL_lowest 2 RL wsL_lowest (some .int) D cy (wsN cy h) (adN h)) (hcb : cb ≤ 0) (hsb : sb ≤ 0) (hK : ∀ (x1' : Int32), G p l e (headSpec wsL_lowest rm_L_lowest).room s m args below meth c 2 cb sb D (wsN cy h) (adN h) Q 16 [(1, .int (x1'))] [] ν (K x1')) :
  ∀ (n : Nat), ∀ (x1 : Int32), G p l e (headSpec wsL_lowest rm_L_lowest).room s m args below meth c 2 cb sb D (wsN cy h) (adN h) Q 2 [(0, .int x0), (1, .int x1)] [] ν (fl_L_lowest_2 N x0 K n x1) := by
  intro n
  induction n with
  | zero => intros; exact G.no
  | succ n ih =>
    intro x1
    rw [fl_L_lowest_2]
    refine G.iload_n E dL_lowest_2 0 rfl rfl ?_
    refine G.iload_n E dL_lowest_3 1 rfl rfl ?_
    refine G.ishr E dL_lowest_4 ?_
    refine G.iconst (v := 1) E dL_lowest_5 (by decide) ?_
    refine G.iand E dL_lowest_6 ?_
    refine G.if_ne (tgt := 16) E dL_lowest_7 (by decide) ?_ ?_
    · refine G.iinc (v := x1 + 1) (lv' := [(1, .int (x1 + 1)), (0, .int x0)]) E dL_lowest_10 1 rfl rfl (by decide) rfl ?_
      refine G.goto (tgt := 2) E dL_lowest_13 (by decide) ?_
      refine G.widen (k1 := cb) (n1 := sb) (by omega) (by omega) ?_
      refine G.loc [1, 0] rfl ?_
      exact ih (x1 + 1)
    · refine G.widen (k1 := cb) (n1 := sb) (by omega) (by omega) ?_
      refine G.loc [1] rfl ?_
      exact hK x1
noncomputable def f_L_lowest (N : Nat) (a0 : Int32) : Option (Int32) :=
  fl_L_lowest_2 N a0 (fun v1 =>
    some v1) N 0
set_option maxHeartbeats 4000000 in
set_option maxRecDepth 100000 in
theorem c_L_lowest {l : Launch} {D : va_G} {cy : Nat → ClassId} {h : Nat → Nat} {N : Nat} {ν : Wd} {a0 : Int32} {r : Int32} (hW : WF (wsN cy h) (adN h)) (hr : f_L_lowest N a0 = some r) : Con l D cy (wsN cy h) (adN h) yL_lowest wsL_lowest rm_L_lowest 0 0 [.int a0] (some (.int r)) ν ν := by
  refine Con.ofM (ρ := Int32) (lv0 := [(0, .int a0)]) (σ := ν) (mc := 0) (ms := 0) (fun r : Int32 => some (.int r)) (fun _ => ν) (by decide) rfl rfl (Nat.le_of_ble_eq_true rfl) rfl hW hr (fun p e s m args below meth c E => ?_)
  unfold f_L_lowest
  refine G.iconst (v := 0) E dL_lowest_0 (by decide) ?_
  refine G.istore_n (lv' := [(1, .int 0), (0, .int a0)]) E dL_lowest_1 rfl (by decide) rfl ?_
  refine G.widen (k1 := 0) (n1 := 0) (by omega) (by omega) ?_
  refine G.loc [1, 0] rfl ?_
  refine gl_L_lowest_2 (cb := 0) (sb := 0) E (by omega) (by omega) (fun v1 => ?_) N _
  refine G.iload_n E dL_lowest_16 0 rfl rfl ?_
  refine G.widen (k1 := 0) (n1 := 0) (by omega) (by omega) ?_
  exact G.iret E dL_lowest_17 rfl rfl
abbrev rm_L_adds : Room := { frames := 0, cells := 0, slots := 0, locals := 0 }
noncomputable def f_L_adds (N : Nat) (ν : Wd) (a0 : Int32) (a1 : Int32) (a2 : Int32) : Option (Int32 × Wd) :=
  rI ν 0 6 3 fun v1 =>
  aI ν 0 6 3 (v1 + 1) fun s2 =>
  aI s2 1 20 v1 a0 fun s3 =>
  aI s3 2 20 v1 a1 fun s4 =>
  aI s4 3 20 v1 a2 fun s5 =>
  rI s5 0 6 4 fun v6 =>
  aI s5 0 6 4 (v6 ||| (1 <<< (v1 &&& 31))) fun s7 =>
  some (v1, s7)
set_option maxHeartbeats 4000000 in
set_option maxRecDepth 100000 in
theorem c_L_adds {l : Launch} {D : va_G} {cy : Nat → ClassId} {h : Nat → Nat} {N : Nat} {ν : Wd} {a0 : Int32} {a1 : Int32} {a2 : Int32} {r : Int32} {ν1 : Wd} (hW : WF (wsN cy h) (adN h)) (hr : f_L_adds N ν a0 a1 a2 = some (r, ν1)) : Con l D cy (wsN cy h) (adN h) yL_adds wsL_adds rm_L_adds 0 0 [.int a0, .int a1, .int a2, .ref (h 0), .ref (h 1), .ref (h 2), .ref (h 3)] (some (.int r)) ν ν1 := by
  refine Con.ofM (ρ := Int32 × Wd) (lv0 := [(0, .int a0), (1, .int a1), (2, .int a2), (3, .ref (h 0)), (4, .ref (h 1)), (5, .ref (h 2)), (6, .ref (h 3))]) (σ := ν) (mc := 0) (ms := 0) (fun r : Int32 × Wd => some (.int r.1)) (fun r => r.2) (by decide) rfl rfl (Nat.le_of_ble_eq_true rfl) rfl hW hr (fun p e s m args below meth c E => ?_)
  unfold f_L_adds
  refine G.aload_n E dL_adds_0 3 rfl rfl ?_
  refine G.iconst (v := 3) E dL_adds_1 (by decide) ?_
  refine G.dup2 E dL_adds_2 rfl rfl ?_
  refine G.ialdW (q0 := 0) (p0 := 0) (n := 6) ν E dL_adds_3 (wsN_at0 _ _ _) (fun v1 => ?_)
  refine G.dupx2 E dL_adds_4 rfl rfl rfl ?_
  refine G.iconst (v := 1) E dL_adds_5 (by decide) ?_
  refine G.iadd E dL_adds_6 ?_
  refine G.iastW (q0 := 0) (p0 := 0) (n := 6) ν (fun x => x) E dL_adds_7 (wsN_at0 _ _ _) (fun j => (wsN_set0 _ _ _ _ j)) (fun s2 => ?_)
  refine G.istore (lv' := [(7, .int v1), (0, .int a0), (1, .int a1), (2, .int a2), (3, .ref (h 0)), (4, .ref (h 1)), (5, .ref (h 2)), (6, .ref (h 3))]) E dL_adds_8 (by decide) rfl ?_
  refine G.aload E dL_adds_10 5 rfl ?_
  refine G.iload E dL_adds_12 0 rfl ?_
  refine G.iload_n E dL_adds_14 1 rfl rfl ?_
  refine G.iastW (q0 := 1) (p0 := 1) (n := 20) s2 (fun x => x) E dL_adds_15 (wsN_at1 _ _ _) (fun j => (wsN_set1 _ _ _ _ j)) (fun s3 => ?_)
  refine G.aload E dL_adds_16 6 rfl ?_
  refine G.iload E dL_adds_18 0 rfl ?_
  refine G.iload_n E dL_adds_20 2 rfl rfl ?_
  refine G.iastW (q0 := 2) (p0 := 2) (n := 20) s3 (fun x => x) E dL_adds_21 (wsN_at2 _ _ _) (fun j => (wsN_set2 _ _ _ _ j)) (fun s4 => ?_)
  refine G.aload E dL_adds_22 7 rfl ?_
  refine G.iload E dL_adds_24 0 rfl ?_
  refine G.iload_n E dL_adds_26 3 rfl rfl ?_
  refine G.iastW (q0 := 3) (p0 := 3) (n := 20) s4 (fun x => x) E dL_adds_27 (wsN_at3 _ _ _) (fun j => (wsN_set3 _ _ _ _ j)) (fun s5 => ?_)
  refine G.aload_n E dL_adds_28 4 rfl rfl ?_
  refine G.iconst (v := 4) E dL_adds_29 (by decide) ?_
  refine G.dup2 E dL_adds_30 rfl rfl ?_
  refine G.ialdW (q0 := 0) (p0 := 0) (n := 6) s5 E dL_adds_31 (wsN_at0 _ _ _) (fun v6 => ?_)
  refine G.iconst (v := 1) E dL_adds_32 (by decide) ?_
  refine G.iload E dL_adds_33 0 rfl ?_
  refine G.ishl E dL_adds_35 ?_
  refine G.ior E dL_adds_36 ?_
  refine G.iastW (q0 := 0) (p0 := 0) (n := 6) s5 (fun x => x) E dL_adds_37 (wsN_at0 _ _ _) (fun j => (wsN_set0 _ _ _ _ j)) (fun s7 => ?_)
  refine G.iload E dL_adds_38 0 rfl ?_
  refine G.widen (k1 := 0) (n1 := 0) (by omega) (by omega) ?_
  exact G.iret E dL_adds_40 rfl rfl
abbrev rm_L_stars : Room := { frames := 1, cells := 0, slots := 0, locals := 27 }
noncomputable def fl_L_stars_30 (N : Nat) (ν : Wd) (x0 : Int32) (K : Unit → Option (Int32 × Wd)) : Nat → Int32 → Option (Int32 × Wd)
  | 0, _ => none
  | n + 1, x5 =>
    rI ν 0 6 3 fun v5 =>
    if v5 ≤ x5 then (
      K ())
    else (
      rI ν 1 20 x0 fun v6 =>
      bP (f_L_wiresOf N ν v6) fun v7 =>
      jn (fun (_u : Unit) => ((
        fl_L_stars_30 N ν x0 K n (x5 + 1)) : Option (Int32 × Wd))) fun j357 =>
      if ((v7 >>> (x5 &&& 31)) &&& 1) = 0 then (
        j357 ())
      else (
        rI ν 1 20 x5 fun v8 =>
        rI ν 2 20 x5 fun v9 =>
        if v8 = v9 then (
          j357 ())
        else (
          rI ν 1 20 x5 fun v10 =>
          rI ν 2 20 x5 fun v11 =>
          rI ν 1 20 x0 fun v12 =>
          lI ((v10 + v11) - v12) fun v13 =>
          rI ν 2 20 x0 fun v14 =>
          jn (fun (v15 : Int32) => ((
            if v15 = 0 then (
              j357 ())
            else (
              bP (f_L_lowest N v15) fun v16 =>
              rI ν 3 20 x0 fun v17 =>
              rI ν 3 20 x5 fun v18 =>
              rI ν 3 20 x0 fun v19 =>
              rI ν 3 20 v16 fun v20 =>
              rI ν 3 20 x5 fun v21 =>
              rI ν 3 20 v16 fun v22 =>
              lI (((v17 * v18) + (v19 * v20)) + (v21 * v22)) fun v23 =>
              rI ν 3 20 x0 fun v24 =>
              mI v23 v24 fun v25 =>
              if 0 < v25 then (
                some (0, ν))
              else (
                rI ν 3 20 x5 fun v26 =>
                mI v23 v26 fun v27 =>
                if 0 < v27 then (
                  some (0, ν))
                else (
                  rI ν 3 20 v16 fun v28 =>
                  mI v23 v28 fun v29 =>
                  if 0 < v29 then (
                    some (0, ν))
                  else (
                    rI ν 3 20 x0 fun v30 =>
                    dI v23 v30 fun v31 =>
                    if 60 < v31 then (
                      some (0, ν))
                    else (
                      rI ν 3 20 x5 fun v32 =>
                      dI v23 v32 fun v33 =>
                      if 60 < v33 then (
                        some (0, ν))
                      else (
                        rI ν 3 20 v16 fun v34 =>
                        dI v23 v34 fun v35 =>
                        if v35 ≤ 60 then (
                          rI ν 0 6 4 fun v36 =>
                          aI ν 0 6 4 (v36 &&& ((((1 <<< (x0 &&& 31)) ||| (1 <<< (x5 &&& 31))) ||| (1 <<< (v16 &&& 31))) ^^^ (-1))) fun s37 =>
                          rI s37 0 6 0 fun v38 =>
                          aI s37 0 6 0 (v38 + 1) fun s39 =>
                          rI s39 0 6 1 fun v40 =>
                          aI s39 0 6 1 (v40 ||| (1 <<< (v38 &&& 31))) fun s41 =>
                          rI s41 0 6 2 fun v42 =>
                          aI s41 0 6 2 (v42 &&& ((1 <<< (v38 &&& 31)) ^^^ (-1))) fun s43 =>
                          rI s43 1 20 x0 fun v44 =>
                          rI s43 3 20 v16 fun v45 =>
                          dI v23 v45 fun v46 =>
                          bS (f_L_adds N s43 v44 v38 v46) fun v47 s48 =>
                          rI s48 2 20 x0 fun v49 =>
                          rI s48 3 20 x5 fun v50 =>
                          dI v23 v50 fun v51 =>
                          bS (f_L_adds N s48 v49 v38 v51) fun v52 s53 =>
                          rI s53 3 20 x0 fun v54 =>
                          dI v23 v54 fun v55 =>
                          bS (f_L_adds N s53 v13 v38 v55) fun v56 s57 =>
                          some (1, s57))
                        else (
                          some (0, ν))))))))) : Option (Int32 × Wd))) fun j114 =>
          if v13 = v14 then (
            j114 0)
          else (
            bP (f_L_wiresOf N ν v13) fun v58 =>
            rI ν 2 20 x0 fun v59 =>
            bP (f_L_wiresOf N ν v59) fun v60 =>
            j114 (v58 &&& v60)))))
set_option maxHeartbeats 4000000 in
set_option maxRecDepth 100000 in
theorem gl_L_stars_30 {N : Nat} {ν : Wd} {x0 : Int32} {cb sb : Nat} {K : Unit → Option (Int32 × Wd)} (E : EV p s m args meth c cL_stars 11 RL wsL_stars (some .boolean) D cy (wsN cy h) (adN h)) (hcb : cb ≤ 0) (hsb : sb ≤ 0) (hK : ∀ (u : Unit), G p l e (headSpec wsL_stars rm_L_stars).room s m args below meth c 11 cb sb D (wsN cy h) (adN h) (QM D (wsN cy h) (adN h) below args s 0 0 (fun r : Int32 × Wd => some (.int r.1)) (fun r => r.2)) 363 [] [] ν (K u)) :
  ∀ (n : Nat), ∀ (x5 : Int32), G p l e (headSpec wsL_stars rm_L_stars).room s m args below meth c 11 cb sb D (wsN cy h) (adN h) (QM D (wsN cy h) (adN h) below args s 0 0 (fun r : Int32 × Wd => some (.int r.1)) (fun r => r.2)) 30 [(0, .int x0), (1, .ref (h 0)), (2, .ref (h 1)), (3, .ref (h 2)), (4, .ref (h 3)), (5, .int x5)] [] ν (fl_L_stars_30 N ν x0 K n x5) := by
  intro n
  induction n with
  | zero => intros; exact G.no
  | succ n ih =>
    intro x5
    rw [fl_L_stars_30]
    refine G.iload E dL_stars_30 5 rfl ?_
    refine G.aload_n E dL_stars_32 1 rfl rfl ?_
    refine G.iconst (v := 3) E dL_stars_33 (by decide) ?_
    refine G.ialdW (q0 := 0) (p0 := 0) (n := 6) ν E dL_stars_34 (wsN_at0 _ _ _) (fun v5 => ?_)
    refine G.icmp_ge (tgt := 363) E dL_stars_35 (by decide) ?_ ?_
    · refine G.widen (k1 := cb) (n1 := sb) (by omega) (by omega) ?_
      refine G.loc [] rfl ?_
      exact hK ()
    · refine G.aload_n E dL_stars_38 2 rfl rfl ?_
      refine G.iload_n E dL_stars_39 0 rfl rfl ?_
      refine G.ialdW (q0 := 1) (p0 := 1) (n := 20) ν E dL_stars_40 (wsN_at1 _ _ _) (fun v6 => ?_)
      refine G.aload_n E dL_stars_41 1 rfl rfl ?_
      refine G.aload_n E dL_stars_42 2 rfl rfl ?_
      refine G.aload_n E dL_stars_43 3 rfl rfl ?_
      refine G.callSi (mc := 0) (ms := 0) (rm := rm_L_wiresOf) (n := 4) (As := [.int v6, .ref (h 0), .ref (h 1), .ref (h 2)]) E dL_stars_44 (fun _ hv => c_L_wiresOf E.wf hv) gL_stars_L_wiresOf rfl rfl rfl (by decide +kernel) ⟨Nat.le_of_ble_eq_true rfl, Nat.le_of_ble_eq_true rfl⟩ rfl (Nat.le_of_ble_eq_true rfl) ⟨by show _ ≤ 0; omega, by show _ ≤ 0; omega⟩ (fun v7 => ?_)
      refine G.iload E dL_stars_47 5 rfl ?_
      refine G.ishr E dL_stars_49 ?_
      refine G.iconst (v := 1) E dL_stars_50 (by decide) ?_
      refine G.iand E dL_stars_51 ?_
      refine G.jn (P := fun j => ∀ (_u : Unit), G p l e (headSpec wsL_stars rm_L_stars).room s m args below meth c 11 cb sb D (wsN cy h) (adN h) (QM D (wsN cy h) (adN h) below args s 0 0 (fun r : Int32 × Wd => some (.int r.1)) (fun r => r.2)) 357 [(0, .int x0), (1, .ref (h 0)), (2, .ref (h 1)), (3, .ref (h 2)), (4, .ref (h 3)), (5, .int x5)] [] ν (j _u)) ?_ (fun j357 hj357 => ?_)
      · intro _u
        refine G.iinc (v := x5 + 1) (lv' := [(5, .int (x5 + 1)), (0, .int x0), (1, .ref (h 0)), (2, .ref (h 1)), (3, .ref (h 2)), (4, .ref (h 3))]) E dL_stars_357 5 rfl rfl (by decide) rfl ?_
        refine G.goto (tgt := 30) E dL_stars_360 (by decide) ?_
        refine G.widen (k1 := cb) (n1 := sb) (by omega) (by omega) ?_
        refine G.loc [1, 2, 3, 4, 5, 0] rfl ?_
        exact ih (x5 + 1)
      · refine G.if_eq (tgt := 357) E dL_stars_52 (by decide) ?_ ?_
        · refine G.widen (k1 := cb) (n1 := sb) (by omega) (by omega) ?_
          refine G.loc [0, 1, 2, 3, 4, 5] rfl ?_
          exact hj357 ()
        · refine G.aload_n E dL_stars_55 2 rfl rfl ?_
          refine G.iload E dL_stars_56 5 rfl ?_
          refine G.ialdW (q0 := 1) (p0 := 1) (n := 20) ν E dL_stars_58 (wsN_at1 _ _ _) (fun v8 => ?_)
          refine G.aload_n E dL_stars_59 3 rfl rfl ?_
          refine G.iload E dL_stars_60 5 rfl ?_
          refine G.ialdW (q0 := 2) (p0 := 2) (n := 20) ν E dL_stars_62 (wsN_at2 _ _ _) (fun v9 => ?_)
          refine G.icmp_ne (tgt := 69) E dL_stars_63 (by decide) ?_ ?_
          · refine G.goto (tgt := 357) E dL_stars_66 (by decide) ?_
            refine G.widen (k1 := cb) (n1 := sb) (by omega) (by omega) ?_
            refine G.loc [0, 1, 2, 3, 4, 5] rfl ?_
            exact hj357 ()
          · refine G.aload_n E dL_stars_69 2 rfl rfl ?_
            refine G.iload E dL_stars_70 5 rfl ?_
            refine G.ialdW (q0 := 1) (p0 := 1) (n := 20) ν E dL_stars_72 (wsN_at1 _ _ _) (fun v10 => ?_)
            refine G.aload_n E dL_stars_73 3 rfl rfl ?_
            refine G.iload E dL_stars_74 5 rfl ?_
            refine G.ialdW (q0 := 2) (p0 := 2) (n := 20) ν E dL_stars_76 (wsN_at2 _ _ _) (fun v11 => ?_)
            refine G.iadd E dL_stars_77 ?_
            refine G.aload_n E dL_stars_78 2 rfl rfl ?_
            refine G.iload_n E dL_stars_79 0 rfl rfl ?_
            refine G.ialdW (q0 := 1) (p0 := 1) (n := 20) ν E dL_stars_80 (wsN_at1 _ _ _) (fun v12 => ?_)
            refine G.isub E dL_stars_81 ?_
            refine G.letI (fun v13 => ?_)
            refine G.istore (lv' := [(6, .int v13), (0, .int x0), (1, .ref (h 0)), (2, .ref (h 1)), (3, .ref (h 2)), (4, .ref (h 3)), (5, .int x5)]) E dL_stars_82 (by decide) rfl ?_
            refine G.iload E dL_stars_84 0 rfl ?_
            refine G.aload_n E dL_stars_86 4 rfl rfl ?_
            refine G.iload_n E dL_stars_87 1 rfl rfl ?_
            refine G.ialdW (q0 := 2) (p0 := 2) (n := 20) ν E dL_stars_88 (wsN_at2 _ _ _) (fun v14 => ?_)
            refine G.jn (P := fun j => ∀ (v15 : Int32), G p l e (headSpec wsL_stars rm_L_stars).room s m args below meth c 11 cb sb D (wsN cy h) (adN h) (QM D (wsN cy h) (adN h) below args s 0 0 (fun r : Int32 × Wd => some (.int r.1)) (fun r => r.2)) 114 [(0, .int x0), (1, .ref (h 0)), (2, .ref (h 1)), (3, .ref (h 2)), (4, .ref (h 3)), (5, .int x5), (6, .int v13)] [.int v15] ν (j v15)) ?_ (fun j114 hj114 => ?_)
            · intro v15
              refine G.istore (lv' := [(7, .int v15), (0, .int x0), (1, .ref (h 0)), (2, .ref (h 1)), (3, .ref (h 2)), (4, .ref (h 3)), (5, .int x5), (6, .int v13)]) E dL_stars_114 (by decide) rfl ?_
              refine G.iload E dL_stars_116 0 rfl ?_
              refine G.if_ne (tgt := 124) E dL_stars_118 (by decide) ?_ ?_
              · refine G.goto (tgt := 357) E dL_stars_121 (by decide) ?_
                refine G.widen (k1 := cb) (n1 := sb) (by omega) (by omega) ?_
                refine G.loc [1, 2, 3, 4, 5, 6] rfl ?_
                exact hj357 ()
              · refine G.iload E dL_stars_124 0 rfl ?_
                refine G.callSi (mc := 0) (ms := 0) (rm := rm_L_lowest) (n := 1) (As := [.int v15]) E dL_stars_126 (fun _ hv => c_L_lowest E.wf hv) gL_stars_L_lowest rfl rfl rfl (by decide +kernel) ⟨Nat.le_of_ble_eq_true rfl, Nat.le_of_ble_eq_true rfl⟩ rfl (Nat.le_of_ble_eq_true rfl) ⟨by show _ ≤ 0; omega, by show _ ≤ 0; omega⟩ (fun v16 => ?_)
                refine G.istore (lv' := [(8, .int v16), (7, .int v15), (0, .int x0), (1, .ref (h 0)), (2, .ref (h 1)), (3, .ref (h 2)), (4, .ref (h 3)), (5, .int x5), (6, .int v13)]) E dL_stars_129 (by decide) rfl ?_
                refine G.aload E dL_stars_131 6 rfl ?_
                refine G.iload_n E dL_stars_133 2 rfl rfl ?_
                refine G.ialdW (q0 := 3) (p0 := 3) (n := 20) ν E dL_stars_134 (wsN_at3 _ _ _) (fun v17 => ?_)
                refine G.aload E dL_stars_135 6 rfl ?_
                refine G.iload E dL_stars_137 7 rfl ?_
                refine G.ialdW (q0 := 3) (p0 := 3) (n := 20) ν E dL_stars_139 (wsN_at3 _ _ _) (fun v18 => ?_)
                refine G.imul E dL_stars_140 ?_
                refine G.aload E dL_stars_141 6 rfl ?_
                refine G.iload_n E dL_stars_143 2 rfl rfl ?_
                refine G.ialdW (q0 := 3) (p0 := 3) (n := 20) ν E dL_stars_144 (wsN_at3 _ _ _) (fun v19 => ?_)
                refine G.aload E dL_stars_145 6 rfl ?_
                refine G.iload E dL_stars_147 0 rfl ?_
                refine G.ialdW (q0 := 3) (p0 := 3) (n := 20) ν E dL_stars_149 (wsN_at3 _ _ _) (fun v20 => ?_)
                refine G.imul E dL_stars_150 ?_
                refine G.iadd E dL_stars_151 ?_
                refine G.aload E dL_stars_152 6 rfl ?_
                refine G.iload E dL_stars_154 7 rfl ?_
                refine G.ialdW (q0 := 3) (p0 := 3) (n := 20) ν E dL_stars_156 (wsN_at3 _ _ _) (fun v21 => ?_)
                refine G.aload E dL_stars_157 6 rfl ?_
                refine G.iload E dL_stars_159 0 rfl ?_
                refine G.ialdW (q0 := 3) (p0 := 3) (n := 20) ν E dL_stars_161 (wsN_at3 _ _ _) (fun v22 => ?_)
                refine G.imul E dL_stars_162 ?_
                refine G.iadd E dL_stars_163 ?_
                refine G.letI (fun v23 => ?_)
                refine G.istore (lv' := [(9, .int v23), (8, .int v16), (7, .int v15), (0, .int x0), (1, .ref (h 0)), (2, .ref (h 1)), (3, .ref (h 2)), (4, .ref (h 3)), (5, .int x5), (6, .int v13)]) E dL_stars_164 (by decide) rfl ?_
                refine G.iload E dL_stars_166 0 rfl ?_
                refine G.aload E dL_stars_168 7 rfl ?_
                refine G.iload_n E dL_stars_170 3 rfl rfl ?_
                refine G.ialdW (q0 := 3) (p0 := 3) (n := 20) ν E dL_stars_171 (wsN_at3 _ _ _) (fun v24 => ?_)
                refine G.irem E dL_stars_172 (fun v25 => ?_)
                refine G.if_gt (tgt := 236) E dL_stars_173 (by decide) ?_ ?_
                · refine G.iconst (v := 0) E dL_stars_236 (by decide) ?_
                  refine G.widen (k1 := 0) (n1 := 0) (by omega) (by omega) ?_
                  exact G.zretc E dL_stars_237 rfl rfl rfl
                · refine G.iload E dL_stars_176 0 rfl ?_
                  refine G.aload E dL_stars_178 7 rfl ?_
                  refine G.iload E dL_stars_180 8 rfl ?_
                  refine G.ialdW (q0 := 3) (p0 := 3) (n := 20) ν E dL_stars_182 (wsN_at3 _ _ _) (fun v26 => ?_)
                  refine G.irem E dL_stars_183 (fun v27 => ?_)
                  refine G.if_gt (tgt := 236) E dL_stars_184 (by decide) ?_ ?_
                  · refine G.iconst (v := 0) E dL_stars_236 (by decide) ?_
                    refine G.widen (k1 := 0) (n1 := 0) (by omega) (by omega) ?_
                    exact G.zretc E dL_stars_237 rfl rfl rfl
                  · refine G.iload E dL_stars_187 0 rfl ?_
                    refine G.aload E dL_stars_189 7 rfl ?_
                    refine G.iload E dL_stars_191 1 rfl ?_
                    refine G.ialdW (q0 := 3) (p0 := 3) (n := 20) ν E dL_stars_193 (wsN_at3 _ _ _) (fun v28 => ?_)
                    refine G.irem E dL_stars_194 (fun v29 => ?_)
                    refine G.if_gt (tgt := 236) E dL_stars_195 (by decide) ?_ ?_
                    · refine G.iconst (v := 0) E dL_stars_236 (by decide) ?_
                      refine G.widen (k1 := 0) (n1 := 0) (by omega) (by omega) ?_
                      exact G.zretc E dL_stars_237 rfl rfl rfl
                    · refine G.iload E dL_stars_198 0 rfl ?_
                      refine G.aload E dL_stars_200 7 rfl ?_
                      refine G.iload_n E dL_stars_202 3 rfl rfl ?_
                      refine G.ialdW (q0 := 3) (p0 := 3) (n := 20) ν E dL_stars_203 (wsN_at3 _ _ _) (fun v30 => ?_)
                      refine G.idiv E dL_stars_204 (fun v31 => ?_)
                      refine G.bipush (v := 60) E dL_stars_205 (by decide) ?_
                      refine G.icmp_gt (tgt := 236) E dL_stars_207 (by decide) ?_ ?_
                      · refine G.iconst (v := 0) E dL_stars_236 (by decide) ?_
                        refine G.widen (k1 := 0) (n1 := 0) (by omega) (by omega) ?_
                        exact G.zretc E dL_stars_237 rfl rfl rfl
                      · refine G.iload E dL_stars_210 0 rfl ?_
                        refine G.aload E dL_stars_212 7 rfl ?_
                        refine G.iload E dL_stars_214 8 rfl ?_
                        refine G.ialdW (q0 := 3) (p0 := 3) (n := 20) ν E dL_stars_216 (wsN_at3 _ _ _) (fun v32 => ?_)
                        refine G.idiv E dL_stars_217 (fun v33 => ?_)
                        refine G.bipush (v := 60) E dL_stars_218 (by decide) ?_
                        refine G.icmp_gt (tgt := 236) E dL_stars_220 (by decide) ?_ ?_
                        · refine G.iconst (v := 0) E dL_stars_236 (by decide) ?_
                          refine G.widen (k1 := 0) (n1 := 0) (by omega) (by omega) ?_
                          exact G.zretc E dL_stars_237 rfl rfl rfl
                        · refine G.iload E dL_stars_223 0 rfl ?_
                          refine G.aload E dL_stars_225 7 rfl ?_
                          refine G.iload E dL_stars_227 1 rfl ?_
                          refine G.ialdW (q0 := 3) (p0 := 3) (n := 20) ν E dL_stars_229 (wsN_at3 _ _ _) (fun v34 => ?_)
                          refine G.idiv E dL_stars_230 (fun v35 => ?_)
                          refine G.bipush (v := 60) E dL_stars_231 (by decide) ?_
                          refine G.icmp_le (tgt := 238) E dL_stars_233 (by decide) ?_ ?_
                          · refine G.aload_n E dL_stars_238 4 rfl rfl ?_
                            refine G.iconst (v := 4) E dL_stars_239 (by decide) ?_
                            refine G.dup2 E dL_stars_240 rfl rfl ?_
                            refine G.ialdW (q0 := 0) (p0 := 0) (n := 6) ν E dL_stars_241 (wsN_at0 _ _ _) (fun v36 => ?_)
                            refine G.iconst (v := 1) E dL_stars_242 (by decide) ?_
                            refine G.iload_n E dL_stars_243 3 rfl rfl ?_
                            refine G.ishl E dL_stars_244 ?_
                            refine G.iconst (v := 1) E dL_stars_245 (by decide) ?_
                            refine G.iload E dL_stars_246 8 rfl ?_
                            refine G.ishl E dL_stars_248 ?_
                            refine G.ior E dL_stars_249 ?_
                            refine G.iconst (v := 1) E dL_stars_250 (by decide) ?_
                            refine G.iload E dL_stars_251 1 rfl ?_
                            refine G.ishl E dL_stars_253 ?_
                            refine G.ior E dL_stars_254 ?_
                            refine G.iconst (v := (-1)) E dL_stars_255 (by decide) ?_
                            refine G.ixor E dL_stars_256 ?_
                            refine G.iand E dL_stars_257 ?_
                            refine G.iastW (q0 := 0) (p0 := 0) (n := 6) ν (fun x => x) E dL_stars_258 (wsN_at0 _ _ _) (fun j => (wsN_set0 _ _ _ _ j)) (fun s37 => ?_)
                            refine G.aload_n E dL_stars_259 4 rfl rfl ?_
                            refine G.iconst (v := 0) E dL_stars_260 (by decide) ?_
                            refine G.dup2 E dL_stars_261 rfl rfl ?_
                            refine G.ialdW (q0 := 0) (p0 := 0) (n := 6) s37 E dL_stars_262 (wsN_at0 _ _ _) (fun v38 => ?_)
                            refine G.dupx2 E dL_stars_263 rfl rfl rfl ?_
                            refine G.iconst (v := 1) E dL_stars_264 (by decide) ?_
                            refine G.iadd E dL_stars_265 ?_
                            refine G.iastW (q0 := 0) (p0 := 0) (n := 6) s37 (fun x => x) E dL_stars_266 (wsN_at0 _ _ _) (fun j => (wsN_set0 _ _ _ _ j)) (fun s39 => ?_)
                            refine G.istore (lv' := [(10, .int v38), (9, .int v23), (8, .int v16), (7, .int v15), (0, .int x0), (1, .ref (h 0)), (2, .ref (h 1)), (3, .ref (h 2)), (4, .ref (h 3)), (5, .int x5), (6, .int v13)]) E dL_stars_267 (by decide) rfl ?_
                            refine G.aload_n E dL_stars_269 5 rfl rfl ?_
                            refine G.iconst (v := 1) E dL_stars_270 (by decide) ?_
                            refine G.dup2 E dL_stars_271 rfl rfl ?_
                            refine G.ialdW (q0 := 0) (p0 := 0) (n := 6) s39 E dL_stars_272 (wsN_at0 _ _ _) (fun v40 => ?_)
                            refine G.iconst (v := 1) E dL_stars_273 (by decide) ?_
                            refine G.iload E dL_stars_274 0 rfl ?_
                            refine G.ishl E dL_stars_276 ?_
                            refine G.ior E dL_stars_277 ?_
                            refine G.iastW (q0 := 0) (p0 := 0) (n := 6) s39 (fun x => x) E dL_stars_278 (wsN_at0 _ _ _) (fun j => (wsN_set0 _ _ _ _ j)) (fun s41 => ?_)
                            refine G.aload_n E dL_stars_279 5 rfl rfl ?_
                            refine G.iconst (v := 2) E dL_stars_280 (by decide) ?_
                            refine G.dup2 E dL_stars_281 rfl rfl ?_
                            refine G.ialdW (q0 := 0) (p0 := 0) (n := 6) s41 E dL_stars_282 (wsN_at0 _ _ _) (fun v42 => ?_)
                            refine G.iconst (v := 1) E dL_stars_283 (by decide) ?_
                            refine G.iload E dL_stars_284 0 rfl ?_
                            refine G.ishl E dL_stars_286 ?_
                            refine G.iconst (v := (-1)) E dL_stars_287 (by decide) ?_
                            refine G.ixor E dL_stars_288 ?_
                            refine G.iand E dL_stars_289 ?_
                            refine G.iastW (q0 := 0) (p0 := 0) (n := 6) s41 (fun x => x) E dL_stars_290 (wsN_at0 _ _ _) (fun j => (wsN_set0 _ _ _ _ j)) (fun s43 => ?_)
                            refine G.aload_n E dL_stars_291 6 rfl rfl ?_
                            refine G.iload_n E dL_stars_292 4 rfl rfl ?_
                            refine G.ialdW (q0 := 1) (p0 := 1) (n := 20) s43 E dL_stars_293 (wsN_at1 _ _ _) (fun v44 => ?_)
                            refine G.iload E dL_stars_294 0 rfl ?_
                            refine G.iload E dL_stars_296 1 rfl ?_
                            refine G.aload E dL_stars_298 8 rfl ?_
                            refine G.iload E dL_stars_300 2 rfl ?_
                            refine G.ialdW (q0 := 3) (p0 := 3) (n := 20) s43 E dL_stars_302 (wsN_at3 _ _ _) (fun v45 => ?_)
                            refine G.idiv E dL_stars_303 (fun v46 => ?_)
                            refine G.aload_n E dL_stars_304 5 rfl rfl ?_
                            refine G.aload_n E dL_stars_305 6 rfl rfl ?_
                            refine G.aload_n E dL_stars_306 7 rfl rfl ?_
                            refine G.aload E dL_stars_307 8 rfl ?_
                            refine G.callSiW (mc := 0) (ms := 0) (rm := rm_L_adds) (n := 7) (As := [.int v44, .int v38, .int v46, .ref (h 0), .ref (h 1), .ref (h 2), .ref (h 3)]) (fun x => x) E dL_stars_309 (fun _ _ hv => c_L_adds E.wf hv) gL_stars_L_adds rfl rfl rfl (by decide +kernel) ⟨Nat.le_of_ble_eq_true rfl, Nat.le_of_ble_eq_true rfl⟩ rfl (Nat.le_of_ble_eq_true rfl) ⟨by show _ ≤ 0; omega, by show _ ≤ 0; omega⟩ (fun v47 s48 => ?_)
                            refine G.pop E dL_stars_312 rfl ?_
                            refine G.aload_n E dL_stars_313 7 rfl rfl ?_
                            refine G.iload_n E dL_stars_314 4 rfl rfl ?_
                            refine G.ialdW (q0 := 2) (p0 := 2) (n := 20) s48 E dL_stars_315 (wsN_at2 _ _ _) (fun v49 => ?_)
                            refine G.iload E dL_stars_316 0 rfl ?_
                            refine G.iload E dL_stars_318 1 rfl ?_
                            refine G.aload E dL_stars_320 8 rfl ?_
                            refine G.iload E dL_stars_322 9 rfl ?_
                            refine G.ialdW (q0 := 3) (p0 := 3) (n := 20) s48 E dL_stars_324 (wsN_at3 _ _ _) (fun v50 => ?_)
                            refine G.idiv E dL_stars_325 (fun v51 => ?_)
                            refine G.aload_n E dL_stars_326 5 rfl rfl ?_
                            refine G.aload_n E dL_stars_327 6 rfl rfl ?_
                            refine G.aload_n E dL_stars_328 7 rfl rfl ?_
                            refine G.aload E dL_stars_329 8 rfl ?_
                            refine G.callSiW (mc := 0) (ms := 0) (rm := rm_L_adds) (n := 7) (As := [.int v49, .int v38, .int v51, .ref (h 0), .ref (h 1), .ref (h 2), .ref (h 3)]) (fun x => x) E dL_stars_331 (fun _ _ hv => c_L_adds E.wf hv) gL_stars_L_adds rfl rfl rfl (by decide +kernel) ⟨Nat.le_of_ble_eq_true rfl, Nat.le_of_ble_eq_true rfl⟩ rfl (Nat.le_of_ble_eq_true rfl) ⟨by show _ ≤ 0; omega, by show _ ≤ 0; omega⟩ (fun v52 s53 => ?_)
                            refine G.pop E dL_stars_334 rfl ?_
                            refine G.iload E dL_stars_335 10 rfl ?_
                            refine G.iload E dL_stars_337 0 rfl ?_
                            refine G.iload E dL_stars_339 1 rfl ?_
                            refine G.aload E dL_stars_341 8 rfl ?_
                            refine G.iload_n E dL_stars_343 4 rfl rfl ?_
                            refine G.ialdW (q0 := 3) (p0 := 3) (n := 20) s53 E dL_stars_344 (wsN_at3 _ _ _) (fun v54 => ?_)
                            refine G.idiv E dL_stars_345 (fun v55 => ?_)
                            refine G.aload_n E dL_stars_346 5 rfl rfl ?_
                            refine G.aload_n E dL_stars_347 6 rfl rfl ?_
                            refine G.aload_n E dL_stars_348 7 rfl rfl ?_
                            refine G.aload E dL_stars_349 8 rfl ?_
                            refine G.callSiW (mc := 0) (ms := 0) (rm := rm_L_adds) (n := 7) (As := [.int v13, .int v38, .int v55, .ref (h 0), .ref (h 1), .ref (h 2), .ref (h 3)]) (fun x => x) E dL_stars_351 (fun _ _ hv => c_L_adds E.wf hv) gL_stars_L_adds rfl rfl rfl (by decide +kernel) ⟨Nat.le_of_ble_eq_true rfl, Nat.le_of_ble_eq_true rfl⟩ rfl (Nat.le_of_ble_eq_true rfl) ⟨by show _ ≤ 0; omega, by show _ ≤ 0; omega⟩ (fun v56 s57 => ?_)
                            refine G.pop E dL_stars_354 rfl ?_
                            refine G.iconst (v := 1) E dL_stars_355 (by decide) ?_
                            refine G.widen (k1 := 0) (n1 := 0) (by omega) (by omega) ?_
                            exact G.zretc E dL_stars_356 rfl rfl rfl
                          · refine G.iconst (v := 0) E dL_stars_236 (by decide) ?_
                            refine G.widen (k1 := 0) (n1 := 0) (by omega) (by omega) ?_
                            exact G.zretc E dL_stars_237 rfl rfl rfl
            · refine G.icmp_ne (tgt := 96) E dL_stars_89 (by decide) ?_ ?_
              · refine G.iconst (v := 0) E dL_stars_92 (by decide) ?_
                refine G.goto (tgt := 114) E dL_stars_93 (by decide) ?_
                refine G.widen (k1 := cb) (n1 := sb) (by omega) (by omega) ?_
                refine G.loc [1, 2, 3, 4, 5, 6, 0] rfl ?_
                exact hj114 0
              · refine G.iload E dL_stars_96 0 rfl ?_
                refine G.aload_n E dL_stars_98 2 rfl rfl ?_
                refine G.aload_n E dL_stars_99 3 rfl rfl ?_
                refine G.aload_n E dL_stars_100 4 rfl rfl ?_
                refine G.callSi (mc := 0) (ms := 0) (rm := rm_L_wiresOf) (n := 4) (As := [.int v13, .ref (h 0), .ref (h 1), .ref (h 2)]) E dL_stars_101 (fun _ hv => c_L_wiresOf E.wf hv) gL_stars_L_wiresOf rfl rfl rfl (by decide +kernel) ⟨Nat.le_of_ble_eq_true rfl, Nat.le_of_ble_eq_true rfl⟩ rfl (Nat.le_of_ble_eq_true rfl) ⟨by show _ ≤ 0; omega, by show _ ≤ 0; omega⟩ (fun v58 => ?_)
                refine G.aload_n E dL_stars_104 4 rfl rfl ?_
                refine G.iload_n E dL_stars_105 1 rfl rfl ?_
                refine G.ialdW (q0 := 2) (p0 := 2) (n := 20) ν E dL_stars_106 (wsN_at2 _ _ _) (fun v59 => ?_)
                refine G.aload_n E dL_stars_107 2 rfl rfl ?_
                refine G.aload_n E dL_stars_108 3 rfl rfl ?_
                refine G.aload_n E dL_stars_109 4 rfl rfl ?_
                refine G.callSi (mc := 0) (ms := 0) (rm := rm_L_wiresOf) (n := 4) (As := [.int v59, .ref (h 0), .ref (h 1), .ref (h 2)]) E dL_stars_110 (fun _ hv => c_L_wiresOf E.wf hv) gL_stars_L_wiresOf rfl rfl rfl (by decide +kernel) ⟨Nat.le_of_ble_eq_true rfl, Nat.le_of_ble_eq_true rfl⟩ rfl (Nat.le_of_ble_eq_true rfl) ⟨by show _ ≤ 0; omega, by show _ ≤ 0; omega⟩ (fun v60 => ?_)
                refine G.iand E dL_stars_113 ?_
                refine G.widen (k1 := cb) (n1 := sb) (by omega) (by omega) ?_
                refine G.loc [1, 2, 3, 4, 5, 6, 0] rfl ?_
                exact hj114 (v58 &&& v60)
noncomputable def f_L_stars (N : Nat) (ν : Wd) (a0 : Int32) : Option (Int32 × Wd) :=
  rI ν 1 20 a0 fun v1 =>
  rI ν 2 20 a0 fun v2 =>
  if v1 = v2 then (
    some (0, ν))
  else (
    rI ν 0 6 3 fun v3 =>
    if 17 < v3 then (
      some (0, ν))
    else (
      rI ν 0 6 0 fun v4 =>
      if v4 ≤ 6 then (
        fl_L_stars_30 N ν a0 (fun (_ : Unit) =>
          some (0, ν)) N 0)
      else (
        some (0, ν))))
set_option maxHeartbeats 4000000 in
set_option maxRecDepth 100000 in
theorem c_L_stars {l : Launch} {D : va_G} {cy : Nat → ClassId} {h : Nat → Nat} {N : Nat} {ν : Wd} {a0 : Int32} {r : Int32} {ν1 : Wd} (hW : WF (wsN cy h) (adN h)) (hr : f_L_stars N ν a0 = some (r, ν1)) : Con l D cy (wsN cy h) (adN h) yL_stars wsL_stars rm_L_stars 0 0 [.int a0, .ref (h 0), .ref (h 1), .ref (h 2), .ref (h 3)] (some (.int r)) ν ν1 := by
  refine Con.ofM (ρ := Int32 × Wd) (lv0 := [(0, .int a0), (1, .ref (h 0)), (2, .ref (h 1)), (3, .ref (h 2)), (4, .ref (h 3))]) (σ := ν) (mc := 0) (ms := 0) (fun r : Int32 × Wd => some (.int r.1)) (fun r => r.2) (by decide) rfl rfl (Nat.le_of_ble_eq_true rfl) rfl hW hr (fun p e s m args below meth c E => ?_)
  unfold f_L_stars
  refine G.aload_n E dL_stars_0 2 rfl rfl ?_
  refine G.iload_n E dL_stars_1 0 rfl rfl ?_
  refine G.ialdW (q0 := 1) (p0 := 1) (n := 20) ν E dL_stars_2 (wsN_at1 _ _ _) (fun v1 => ?_)
  refine G.aload_n E dL_stars_3 3 rfl rfl ?_
  refine G.iload_n E dL_stars_4 0 rfl rfl ?_
  refine G.ialdW (q0 := 2) (p0 := 2) (n := 20) ν E dL_stars_5 (wsN_at2 _ _ _) (fun v2 => ?_)
  refine G.icmp_eq (tgt := 25) E dL_stars_6 (by decide) ?_ ?_
  · refine G.iconst (v := 0) E dL_stars_25 (by decide) ?_
    refine G.widen (k1 := 0) (n1 := 0) (by omega) (by omega) ?_
    exact G.zretc E dL_stars_26 rfl rfl rfl
  · refine G.aload_n E dL_stars_9 1 rfl rfl ?_
    refine G.iconst (v := 3) E dL_stars_10 (by decide) ?_
    refine G.ialdW (q0 := 0) (p0 := 0) (n := 6) ν E dL_stars_11 (wsN_at0 _ _ _) (fun v3 => ?_)
    refine G.bipush (v := 17) E dL_stars_12 (by decide) ?_
    refine G.icmp_gt (tgt := 25) E dL_stars_14 (by decide) ?_ ?_
    · refine G.iconst (v := 0) E dL_stars_25 (by decide) ?_
      refine G.widen (k1 := 0) (n1 := 0) (by omega) (by omega) ?_
      exact G.zretc E dL_stars_26 rfl rfl rfl
    · refine G.aload_n E dL_stars_17 1 rfl rfl ?_
      refine G.iconst (v := 0) E dL_stars_18 (by decide) ?_
      refine G.ialdW (q0 := 0) (p0 := 0) (n := 6) ν E dL_stars_19 (wsN_at0 _ _ _) (fun v4 => ?_)
      refine G.bipush (v := 6) E dL_stars_20 (by decide) ?_
      refine G.icmp_le (tgt := 27) E dL_stars_22 (by decide) ?_ ?_
      · refine G.iconst (v := 0) E dL_stars_27 (by decide) ?_
        refine G.istore (lv' := [(5, .int 0), (0, .int a0), (1, .ref (h 0)), (2, .ref (h 1)), (3, .ref (h 2)), (4, .ref (h 3))]) E dL_stars_28 (by decide) rfl ?_
        refine G.widen (k1 := 0) (n1 := 0) (by omega) (by omega) ?_
        refine G.loc [1, 2, 3, 4, 5, 0] rfl ?_
        refine gl_L_stars_30 (cb := 0) (sb := 0) E (by omega) (by omega) (fun _ => ?_) N _
        refine G.iconst (v := 0) E dL_stars_363 (by decide) ?_
        refine G.widen (k1 := 0) (n1 := 0) (by omega) (by omega) ?_
        exact G.zretc E dL_stars_364 rfl rfl rfl
      · refine G.iconst (v := 0) E dL_stars_25 (by decide) ?_
        refine G.widen (k1 := 0) (n1 := 0) (by omega) (by omega) ?_
        exact G.zretc E dL_stars_26 rfl rfl rfl
abbrev rm_L_does : Room := { frames := 2, cells := 2, slots := 6, locals := 57 }
noncomputable def fl_L_does_178 (N : Nat) (ν : Wd) (x0 : Int32) (x1 : Int32) (x6 : Int32) (K : Int32 → Wd → Option (Int32 × Wd)) : Nat → Int32 → Int32 → Int32 → Wd → Option (Int32 × Wd)
  | 0, _, _, _, _ => none
  | n + 1, x9, x10, x11, τ0 =>
    rI ν 0 6 3 fun v3 =>
    if v3 ≤ x11 then (
      K x9 τ0)
    else (
      jn (fun (v4 : Int32) (v5 : Int32) (s6 : Wd) => ((
        fl_L_does_178 N ν x0 x1 x6 K n v4 v5 (x11 + 1) s6) : Option (Int32 × Wd))) fun j262 =>
      if ((x6 >>> (x11 &&& 31)) &&& 1) = 0 then (
        j262 x9 x10 τ0)
      else (
        if x9 = 3 then (
          some (0, ν))
        else (
          aI τ0 12 3 x9 x11 fun s7 =>
          rI ν 1 20 x11 fun v8 =>
          rI ν 2 20 x11 fun v9 =>
          aI s7 13 3 x9 ((v8 + v9) - x1) fun s10 =>
          rI s10 13 3 x9 fun v11 =>
          if ((x10 >>> (v11 &&& 31)) &&& 1) = 1 then (
            some (0, ν))
          else (
            rI s10 13 3 x9 fun v12 =>
            lI (x10 ||| (1 <<< (v12 &&& 31))) fun v13 =>
            j262 (x9 + 1) v13 s10))))
set_option maxHeartbeats 4000000 in
set_option maxRecDepth 100000 in
theorem gl_L_does_178 {N : Nat} {q1 : Nat} {q2 : Nat} {ν : Wd} {x0 : Int32} {x1 : Int32} {x6 : Int32} {cb sb : Nat} {K : Int32 → Wd → Option (Int32 × Wd)} (E : EV p s m args meth c cL_does 14 RL wsL_does (some .boolean) D cy (wsD2 cy h q1 q2) ((adN h ++ [q1]) ++ [q2])) (hWN : WF (wsN cy h) (adN h)) (E0 : EV p s m args meth c cL_does 14 RL wsL_does (some .boolean) D cy (wsN cy h) (adN h)) (hA : wA ((adN h ++ [q1]) ++ [q2]) s.heap.size = wA (adN h) s.heap.size) (hcb : cb ≤ 2) (hsb : sb ≤ 6) (hK : ∀ (x9' : Int32) (τ0' : Wd), G p l e (headSpec wsL_does rm_L_does).room s m args below meth c 14 cb sb D (wsD2 cy h q1 q2) ((adN h ++ [q1]) ++ [q2]) (QM D (wsN cy h) (adN h) below args s 2 6 (fun r : Int32 × Wd => some (.int r.1)) (fun r => r.2)) 268 [(0, .int x0), (1, .int x1), (2, .ref (h 0)), (3, .ref (h 1)), (4, .ref (h 2)), (5, .ref (h 3)), (6, .int x6), (7, .ref q1), (8, .ref q2), (9, .int (x9'))] [] (ν, τ0') (K x9' τ0')) :
  ∀ (n : Nat), ∀ (x9 : Int32) (x10 : Int32) (x11 : Int32) (τ0 : Wd), G p l e (headSpec wsL_does rm_L_does).room s m args below meth c 14 cb sb D (wsD2 cy h q1 q2) ((adN h ++ [q1]) ++ [q2]) (QM D (wsN cy h) (adN h) below args s 2 6 (fun r : Int32 × Wd => some (.int r.1)) (fun r => r.2)) 178 [(0, .int x0), (1, .int x1), (2, .ref (h 0)), (3, .ref (h 1)), (4, .ref (h 2)), (5, .ref (h 3)), (6, .int x6), (7, .ref q1), (8, .ref q2), (9, .int x9), (10, .int x10), (11, .int x11)] [] (ν, τ0) (fl_L_does_178 N ν x0 x1 x6 K n x9 x10 x11 τ0) := by
  intro n
  induction n with
  | zero => intros; exact G.no
  | succ n ih =>
    intro x9 x10 x11 τ0
    rw [fl_L_does_178]
    refine G.iload E dL_does_178 11 rfl ?_
    refine G.aload_n E dL_does_180 2 rfl rfl ?_
    refine G.iconst (v := 3) E dL_does_181 (by decide) ?_
    refine G.ialdW (q0 := 0) (p0 := 0) (n := 6) ν E dL_does_182 (wsD2_at0 _ _ _ _ _) (fun v3 => ?_)
    refine G.icmp_ge (tgt := 268) E dL_does_183 (by decide) ?_ ?_
    · refine G.widen (k1 := cb) (n1 := sb) (by omega) (by omega) ?_
      refine G.loc [0, 1, 2, 3, 4, 5, 6, 7, 8, 9] rfl ?_
      exact hK x9 τ0
    · refine G.iload E dL_does_186 6 rfl ?_
      refine G.iload E dL_does_188 11 rfl ?_
      refine G.ishr E dL_does_190 ?_
      refine G.iconst (v := 1) E dL_does_191 (by decide) ?_
      refine G.iand E dL_does_192 ?_
      refine G.jn (P := fun j => ∀ (v4 : Int32) (v5 : Int32) (s6 : Wd), G p l e (headSpec wsL_does rm_L_does).room s m args below meth c 14 cb sb D (wsD2 cy h q1 q2) ((adN h ++ [q1]) ++ [q2]) (QM D (wsN cy h) (adN h) below args s 2 6 (fun r : Int32 × Wd => some (.int r.1)) (fun r => r.2)) 262 [(0, .int x0), (1, .int x1), (2, .ref (h 0)), (3, .ref (h 1)), (4, .ref (h 2)), (5, .ref (h 3)), (6, .int x6), (7, .ref q1), (8, .ref q2), (9, .int v4), (10, .int v5), (11, .int x11)] [] (ν, s6) (j v4 v5 s6)) ?_ (fun j262 hj262 => ?_)
      · intro v4 v5 s6
        refine G.iinc (v := x11 + 1) (lv' := [(11, .int (x11 + 1)), (0, .int x0), (1, .int x1), (2, .ref (h 0)), (3, .ref (h 1)), (4, .ref (h 2)), (5, .ref (h 3)), (6, .int x6), (7, .ref q1), (8, .ref q2), (9, .int v4), (10, .int v5)]) E dL_does_262 11 rfl rfl (by decide) rfl ?_
        refine G.goto (tgt := 178) E dL_does_265 (by decide) ?_
        refine G.widen (k1 := cb) (n1 := sb) (by omega) (by omega) ?_
        refine G.loc [1, 2, 3, 4, 5, 6, 7, 8, 9, 10, 11, 0] rfl ?_
        exact ih v4 v5 (x11 + 1) s6
      · refine G.if_ne (tgt := 199) E dL_does_193 (by decide) ?_ ?_
        · refine G.goto (tgt := 262) E dL_does_196 (by decide) ?_
          refine G.widen (k1 := cb) (n1 := sb) (by omega) (by omega) ?_
          refine G.loc [0, 1, 2, 3, 4, 5, 6, 7, 8, 9, 10, 11] rfl ?_
          exact hj262 x9 x10 τ0
        · refine G.iload E dL_does_199 9 rfl ?_
          refine G.iconst (v := 3) E dL_does_201 (by decide) ?_
          refine G.icmp_ne (tgt := 207) E dL_does_202 (by decide) ?_ ?_
          · refine G.iconst (v := 0) E dL_does_205 (by decide) ?_
            refine G.widen (k1 := 2) (n1 := 6) (by omega) (by omega) ?_
            refine G.drop (ws := wsN cy h) (ad := adN h) (σ := ν) (fun H hp => vP_left (A := wsN cy h ν) hp) hA ?_
            exact G.zretc E0 dL_does_206 rfl rfl rfl
          · refine G.aload E dL_does_207 7 rfl ?_
            refine G.iload E dL_does_209 9 rfl ?_
            refine G.iload E dL_does_211 11 rfl ?_
            refine G.iastW (q0 := 12) (p0 := 12) (n := 3) τ0 (fun x => (ν, x)) E dL_does_213 (wsD2_at12 _ _ _ _ _) (fun j => (wsD2_set12 _ _ _ _ _ _ _ j)) (fun s7 => ?_)
            refine G.aload E dL_does_214 8 rfl ?_
            refine G.iload E dL_does_216 9 rfl ?_
            refine G.aload_n E dL_does_218 3 rfl rfl ?_
            refine G.iload E dL_does_219 11 rfl ?_
            refine G.ialdW (q0 := 1) (p0 := 1) (n := 20) ν E dL_does_221 (wsD2_at1 _ _ _ _ _) (fun v8 => ?_)
            refine G.aload E dL_does_222 4 rfl ?_
            refine G.iload E dL_does_224 11 rfl ?_
            refine G.ialdW (q0 := 2) (p0 := 2) (n := 20) ν E dL_does_226 (wsD2_at2 _ _ _ _ _) (fun v9 => ?_)
            refine G.iadd E dL_does_227 ?_
            refine G.iload_n E dL_does_228 1 rfl rfl ?_
            refine G.isub E dL_does_229 ?_
            refine G.iastW (q0 := 13) (p0 := 13) (n := 3) s7 (fun x => (ν, x)) E dL_does_230 (wsD2_at13 _ _ _ _ _) (fun j => (wsD2_set13 _ _ _ _ _ _ _ j)) (fun s10 => ?_)
            refine G.iload E dL_does_231 10 rfl ?_
            refine G.aload E dL_does_233 8 rfl ?_
            refine G.iload E dL_does_235 9 rfl ?_
            refine G.ialdW (q0 := 13) (p0 := 13) (n := 3) s10 E dL_does_237 (wsD2_at13 _ _ _ _ _) (fun v11 => ?_)
            refine G.ishr E dL_does_238 ?_
            refine G.iconst (v := 1) E dL_does_239 (by decide) ?_
            refine G.iand E dL_does_240 ?_
            refine G.iconst (v := 1) E dL_does_241 (by decide) ?_
            refine G.icmp_ne (tgt := 247) E dL_does_242 (by decide) ?_ ?_
            · refine G.iconst (v := 0) E dL_does_245 (by decide) ?_
              refine G.widen (k1 := 2) (n1 := 6) (by omega) (by omega) ?_
              refine G.drop (ws := wsN cy h) (ad := adN h) (σ := ν) (fun H hp => vP_left (A := wsN cy h ν) hp) hA ?_
              exact G.zretc E0 dL_does_246 rfl rfl rfl
            · refine G.iload E dL_does_247 10 rfl ?_
              refine G.iconst (v := 1) E dL_does_249 (by decide) ?_
              refine G.aload E dL_does_250 8 rfl ?_
              refine G.iload E dL_does_252 9 rfl ?_
              refine G.ialdW (q0 := 13) (p0 := 13) (n := 3) s10 E dL_does_254 (wsD2_at13 _ _ _ _ _) (fun v12 => ?_)
              refine G.ishl E dL_does_255 ?_
              refine G.ior E dL_does_256 ?_
              refine G.letI (fun v13 => ?_)
              refine G.istore (lv' := [(10, .int v13), (0, .int x0), (1, .int x1), (2, .ref (h 0)), (3, .ref (h 1)), (4, .ref (h 2)), (5, .ref (h 3)), (6, .int x6), (7, .ref q1), (8, .ref q2), (9, .int x9), (11, .int x11)]) E dL_does_257 (by decide) rfl ?_
              refine G.iinc (v := x9 + 1) (lv' := [(9, .int (x9 + 1)), (10, .int v13), (0, .int x0), (1, .int x1), (2, .ref (h 0)), (3, .ref (h 1)), (4, .ref (h 2)), (5, .ref (h 3)), (6, .int x6), (7, .ref q1), (8, .ref q2), (11, .int x11)]) E dL_does_259 10 rfl rfl (by decide) rfl ?_
              refine G.widen (k1 := cb) (n1 := sb) (by omega) (by omega) ?_
              refine G.loc [2, 3, 4, 5, 6, 7, 8, 9, 10, 0, 1, 11] rfl ?_
              exact hj262 (x9 + 1) v13 s10
noncomputable def fl_L_does_311 {ρ : Type} (N : Nat) (ν : Wd) (τ : Wd) (x0 : Int32) (x1 : Int32) (x6 : Int32) (x9 : Int32) (K : Int32 → Option (ρ)) : Nat → Int32 → Int32 → Option (ρ)
  | 0, _, _ => none
  | n + 1, x11, x12 =>
    if x9 ≤ x12 then (
      K x11)
    else (
      rI τ 12 3 x12 fun v18 =>
      rI ν 3 20 v18 fun v19 =>
      lI (x11 + v19) fun v20 =>
      fl_L_does_311 N ν τ x0 x1 x6 x9 K n v20 (x12 + 1))
set_option maxHeartbeats 4000000 in
set_option maxRecDepth 100000 in
theorem gl_L_does_311 {ρ : Type} {Q : ρ → State → Prop} {N : Nat} {q1 : Nat} {q2 : Nat} {ν : Wd} {τ : Wd} {x0 : Int32} {x1 : Int32} {x6 : Int32} {x9 : Int32} {cb sb : Nat} {K : Int32 → Option (ρ)} (E : EV p s m args meth c cL_does 14 RL wsL_does (some .boolean) D cy (wsD2 cy h q1 q2) ((adN h ++ [q1]) ++ [q2])) (hWN : WF (wsN cy h) (adN h)) (E0 : EV p s m args meth c cL_does 14 RL wsL_does (some .boolean) D cy (wsN cy h) (adN h)) (hA : wA ((adN h ++ [q1]) ++ [q2]) s.heap.size = wA (adN h) s.heap.size) (hcb : cb ≤ 2) (hsb : sb ≤ 6) (hK : ∀ (x11' : Int32), G p l e (headSpec wsL_does rm_L_does).room s m args below meth c 14 cb sb D (wsD2 cy h q1 q2) ((adN h ++ [q1]) ++ [q2]) Q 337 [(0, .int x0), (1, .int x1), (2, .ref (h 0)), (3, .ref (h 1)), (4, .ref (h 2)), (5, .ref (h 3)), (6, .int x6), (7, .ref q1), (8, .ref q2), (9, .int x9), (11, .int (x11'))] [] (ν, τ) (K x11')) :
  ∀ (n : Nat), ∀ (x11 : Int32) (x12 : Int32), G p l e (headSpec wsL_does rm_L_does).room s m args below meth c 14 cb sb D (wsD2 cy h q1 q2) ((adN h ++ [q1]) ++ [q2]) Q 311 [(0, .int x0), (1, .int x1), (2, .ref (h 0)), (3, .ref (h 1)), (4, .ref (h 2)), (5, .ref (h 3)), (6, .int x6), (7, .ref q1), (8, .ref q2), (9, .int x9), (11, .int x11), (12, .int x12)] [] (ν, τ) (fl_L_does_311 N ν τ x0 x1 x6 x9 K n x11 x12) := by
  intro n
  induction n with
  | zero => intros; exact G.no
  | succ n ih =>
    intro x11 x12
    rw [fl_L_does_311]
    refine G.iload E dL_does_311 11 rfl ?_
    refine G.iload E dL_does_313 9 rfl ?_
    refine G.icmp_ge (tgt := 337) E dL_does_315 (by decide) ?_ ?_
    · refine G.widen (k1 := cb) (n1 := sb) (by omega) (by omega) ?_
      refine G.loc [0, 1, 2, 3, 4, 5, 6, 7, 8, 9, 10] rfl ?_
      exact hK x11
    · refine G.iload E dL_does_318 10 rfl ?_
      refine G.aload E dL_does_320 5 rfl ?_
      refine G.aload E dL_does_322 7 rfl ?_
      refine G.iload E dL_does_324 11 rfl ?_
      refine G.ialdW (q0 := 12) (p0 := 12) (n := 3) τ E dL_does_326 (wsD2_at12 _ _ _ _ _) (fun v18 => ?_)
      refine G.ialdW (q0 := 3) (p0 := 3) (n := 20) ν E dL_does_327 (wsD2_at3 _ _ _ _ _) (fun v19 => ?_)
      refine G.iadd E dL_does_328 ?_
      refine G.letI (fun v20 => ?_)
      refine G.istore (lv' := [(11, .int v20), (0, .int x0), (1, .int x1), (2, .ref (h 0)), (3, .ref (h 1)), (4, .ref (h 2)), (5, .ref (h 3)), (6, .int x6), (7, .ref q1), (8, .ref q2), (9, .int x9), (12, .int x12)]) E dL_does_329 (by decide) rfl ?_
      refine G.iinc (v := x12 + 1) (lv' := [(12, .int (x12 + 1)), (11, .int v20), (0, .int x0), (1, .int x1), (2, .ref (h 0)), (3, .ref (h 1)), (4, .ref (h 2)), (5, .ref (h 3)), (6, .int x6), (7, .ref q1), (8, .ref q2), (9, .int x9)]) E dL_does_331 11 rfl rfl (by decide) rfl ?_
      refine G.goto (tgt := 311) E dL_does_334 (by decide) ?_
      refine G.widen (k1 := cb) (n1 := sb) (by omega) (by omega) ?_
      refine G.loc [2, 3, 4, 5, 6, 7, 8, 9, 10, 11, 1, 0] rfl ?_
      exact ih v20 (x12 + 1)
noncomputable def fl_L_does_389 (N : Nat) (ν : Wd) (τ : Wd) (x0 : Int32) (x1 : Int32) (x6 : Int32) (x9 : Int32) (x11 : Int32) (K : Unit → Option (Int32 × Wd)) : Nat → Int32 → Option (Int32 × Wd)
  | 0, _ => none
  | n + 1, x12 =>
    if 3 ≤ x12 then (
      K ())
    else (
      if x0 = 4 then (
        rI τ 12 3 x12 fun v22 =>
        rI ν 3 20 v22 fun v23 =>
        mI (x12 + 1) 3 fun v24 =>
        rI τ 12 3 v24 fun v25 =>
        rI ν 3 20 v25 fun v26 =>
        mI (v23 * v26) x11 fun v27 =>
        if v27 ≤ 0 then (
          fl_L_does_389 N ν τ x0 x1 x6 x9 x11 K n (x12 + 1))
        else (
          some (0, ν)))
      else (
        K ()))
set_option maxHeartbeats 4000000 in
set_option maxRecDepth 100000 in
theorem gl_L_does_389 {N : Nat} {q1 : Nat} {q2 : Nat} {ν : Wd} {τ : Wd} {x0 : Int32} {x1 : Int32} {x6 : Int32} {x9 : Int32} {x11 : Int32} {cb sb : Nat} {K : Unit → Option (Int32 × Wd)} (E : EV p s m args meth c cL_does 14 RL wsL_does (some .boolean) D cy (wsD2 cy h q1 q2) ((adN h ++ [q1]) ++ [q2])) (hWN : WF (wsN cy h) (adN h)) (E0 : EV p s m args meth c cL_does 14 RL wsL_does (some .boolean) D cy (wsN cy h) (adN h)) (hA : wA ((adN h ++ [q1]) ++ [q2]) s.heap.size = wA (adN h) s.heap.size) (hcb : cb ≤ 2) (hsb : sb ≤ 6) (hK : ∀ (u : Unit), G p l e (headSpec wsL_does rm_L_does).room s m args below meth c 14 cb sb D (wsD2 cy h q1 q2) ((adN h ++ [q1]) ++ [q2]) (QM D (wsN cy h) (adN h) below args s 2 6 (fun r : Int32 × Wd => some (.int r.1)) (fun r => r.2)) 435 [(1, .int x1), (2, .ref (h 0)), (3, .ref (h 1)), (4, .ref (h 2)), (5, .ref (h 3)), (6, .int x6), (7, .ref q1), (8, .ref q2), (9, .int x9), (11, .int x11)] [] (ν, τ) (K u)) :
  ∀ (n : Nat), ∀ (x12 : Int32), G p l e (headSpec wsL_does rm_L_does).room s m args below meth c 14 cb sb D (wsD2 cy h q1 q2) ((adN h ++ [q1]) ++ [q2]) (QM D (wsN cy h) (adN h) below args s 2 6 (fun r : Int32 × Wd => some (.int r.1)) (fun r => r.2)) 389 [(0, .int x0), (1, .int x1), (2, .ref (h 0)), (3, .ref (h 1)), (4, .ref (h 2)), (5, .ref (h 3)), (6, .int x6), (7, .ref q1), (8, .ref q2), (9, .int x9), (11, .int x11), (12, .int x12)] [] (ν, τ) (fl_L_does_389 N ν τ x0 x1 x6 x9 x11 K n x12) := by
  intro n
  induction n with
  | zero => intros; exact G.no
  | succ n ih =>
    intro x12
    rw [fl_L_does_389]
    refine G.iload E dL_does_389 11 rfl ?_
    refine G.iconst (v := 3) E dL_does_391 (by decide) ?_
    refine G.icmp_ge (tgt := 435) E dL_does_392 (by decide) ?_ ?_
    · refine G.widen (k1 := cb) (n1 := sb) (by omega) (by omega) ?_
      refine G.loc [1, 2, 3, 4, 5, 6, 7, 8, 9, 10] rfl ?_
      exact hK ()
    · refine G.iload_n E dL_does_395 0 rfl rfl ?_
      refine G.iconst (v := 4) E dL_does_396 (by decide) ?_
      refine G.icmp_ne (tgt := 435) E dL_does_397 (by decide) ?_ ?_
      · refine G.aload E dL_does_400 5 rfl ?_
        refine G.aload E dL_does_402 7 rfl ?_
        refine G.iload E dL_does_404 11 rfl ?_
        refine G.ialdW (q0 := 12) (p0 := 12) (n := 3) τ E dL_does_406 (wsD2_at12 _ _ _ _ _) (fun v22 => ?_)
        refine G.ialdW (q0 := 3) (p0 := 3) (n := 20) ν E dL_does_407 (wsD2_at3 _ _ _ _ _) (fun v23 => ?_)
        refine G.aload E dL_does_408 5 rfl ?_
        refine G.aload E dL_does_410 7 rfl ?_
        refine G.iload E dL_does_412 11 rfl ?_
        refine G.iconst (v := 1) E dL_does_414 (by decide) ?_
        refine G.iadd E dL_does_415 ?_
        refine G.iconst (v := 3) E dL_does_416 (by decide) ?_
        refine G.irem E dL_does_417 (fun v24 => ?_)
        refine G.ialdW (q0 := 12) (p0 := 12) (n := 3) τ E dL_does_418 (wsD2_at12 _ _ _ _ _) (fun v25 => ?_)
        refine G.ialdW (q0 := 3) (p0 := 3) (n := 20) ν E dL_does_419 (wsD2_at3 _ _ _ _ _) (fun v26 => ?_)
        refine G.imul E dL_does_420 ?_
        refine G.iload E dL_does_421 10 rfl ?_
        refine G.irem E dL_does_423 (fun v27 => ?_)
        refine G.if_le (tgt := 429) E dL_does_424 (by decide) ?_ ?_
        · refine G.iinc (v := x12 + 1) (lv' := [(12, .int (x12 + 1)), (0, .int x0), (1, .int x1), (2, .ref (h 0)), (3, .ref (h 1)), (4, .ref (h 2)), (5, .ref (h 3)), (6, .int x6), (7, .ref q1), (8, .ref q2), (9, .int x9), (11, .int x11)]) E dL_does_429 11 rfl rfl (by decide) rfl ?_
          refine G.goto (tgt := 389) E dL_does_432 (by decide) ?_
          refine G.widen (k1 := cb) (n1 := sb) (by omega) (by omega) ?_
          refine G.loc [1, 2, 3, 4, 5, 6, 7, 8, 9, 10, 11, 0] rfl ?_
          exact ih (x12 + 1)
        · refine G.iconst (v := 0) E dL_does_427 (by decide) ?_
          refine G.widen (k1 := 2) (n1 := 6) (by omega) (by omega) ?_
          refine G.drop (ws := wsN cy h) (ad := adN h) (σ := ν) (fun H hp => vP_left (A := wsN cy h ν) hp) hA ?_
          exact G.zretc E0 dL_does_428 rfl rfl rfl
      · refine G.widen (k1 := cb) (n1 := sb) (by omega) (by omega) ?_
        refine G.loc [1, 2, 3, 4, 5, 6, 7, 8, 9, 10] rfl ?_
        exact hK ()
noncomputable def fl_L_does_472 {ρ : Type} (N : Nat) (τ : Wd) (x9 : Int32) (x11 : Int32) (x12 : Int32) (K : Wd → Option (ρ)) : Nat → Int32 → Wd → Option (ρ)
  | 0, _, _ => none
  | n + 1, x13, ν0 =>
    if x9 ≤ x13 then (
      K ν0)
    else (
      rI τ 13 3 x12 fun v33 =>
      rI τ 13 3 x13 fun v34 =>
      rI τ 12 3 x12 fun v35 =>
      rI ν0 3 20 v35 fun v36 =>
      rI τ 12 3 x13 fun v37 =>
      rI ν0 3 20 v37 fun v38 =>
      dI (v36 * v38) x11 fun v39 =>
      bS (f_L_adds N ν0 v33 v34 v39) fun v40 s41 =>
      fl_L_does_472 N τ x9 x11 x12 K n (x13 + 1) s41)
set_option maxHeartbeats 4000000 in
set_option maxRecDepth 100000 in
theorem gl_L_does_472 {ρ : Type} {Q : ρ → State → Prop} {N : Nat} {q1 : Nat} {q2 : Nat} {τ : Wd} {x9 : Int32} {x11 : Int32} {x12 : Int32} {cb sb : Nat} {K : Wd → Option (ρ)} (E : EV p s m args meth c cL_does 14 RL wsL_does (some .boolean) D cy (wsD2 cy h q1 q2) ((adN h ++ [q1]) ++ [q2])) (hWN : WF (wsN cy h) (adN h)) (E0 : EV p s m args meth c cL_does 14 RL wsL_does (some .boolean) D cy (wsN cy h) (adN h)) (hA : wA ((adN h ++ [q1]) ++ [q2]) s.heap.size = wA (adN h) s.heap.size) (hcb : cb ≤ 2) (hsb : sb ≤ 6) (hK : ∀ (ν0' : Wd), G p l e (headSpec wsL_does rm_L_does).room s m args below meth c 14 cb sb D (wsD2 cy h q1 q2) ((adN h ++ [q1]) ++ [q2]) Q 525 [(2, .ref (h 0)), (3, .ref (h 1)), (4, .ref (h 2)), (5, .ref (h 3)), (7, .ref q1), (8, .ref q2), (9, .int x9), (11, .int x11), (12, .int x12)] [] (ν0', τ) (K ν0')) :
  ∀ (n : Nat), ∀ (x13 : Int32) (ν0 : Wd), G p l e (headSpec wsL_does rm_L_does).room s m args below meth c 14 cb sb D (wsD2 cy h q1 q2) ((adN h ++ [q1]) ++ [q2]) Q 472 [(2, .ref (h 0)), (3, .ref (h 1)), (4, .ref (h 2)), (5, .ref (h 3)), (7, .ref q1), (8, .ref q2), (9, .int x9), (11, .int x11), (12, .int x12), (13, .int x13)] [] (ν0, τ) (fl_L_does_472 N τ x9 x11 x12 K n x13 ν0) := by
  intro n
  induction n with
  | zero => intros; exact G.no
  | succ n ih =>
    intro x13 ν0
    rw [fl_L_does_472]
    refine G.iload E dL_does_472 9 rfl ?_
    refine G.iload E dL_does_474 6 rfl ?_
    refine G.icmp_ge (tgt := 525) E dL_does_476 (by decide) ?_ ?_
    · refine G.widen (k1 := cb) (n1 := sb) (by omega) (by omega) ?_
      refine G.loc [0, 1, 2, 3, 4, 5, 6, 7, 8] rfl ?_
      exact hK ν0
    · refine G.aload E dL_does_479 5 rfl ?_
      refine G.iload E dL_does_481 8 rfl ?_
      refine G.ialdW (q0 := 13) (p0 := 13) (n := 3) τ E dL_does_483 (wsD2_at13 _ _ _ _ _) (fun v33 => ?_)
      refine G.aload E dL_does_484 5 rfl ?_
      refine G.iload E dL_does_486 9 rfl ?_
      refine G.ialdW (q0 := 13) (p0 := 13) (n := 3) τ E dL_does_488 (wsD2_at13 _ _ _ _ _) (fun v34 => ?_)
      refine G.aload E dL_does_489 3 rfl ?_
      refine G.aload E dL_does_491 4 rfl ?_
      refine G.iload E dL_does_493 8 rfl ?_
      refine G.ialdW (q0 := 12) (p0 := 12) (n := 3) τ E dL_does_495 (wsD2_at12 _ _ _ _ _) (fun v35 => ?_)
      refine G.ialdW (q0 := 3) (p0 := 3) (n := 20) ν0 E dL_does_496 (wsD2_at3 _ _ _ _ _) (fun v36 => ?_)
      refine G.aload E dL_does_497 3 rfl ?_
      refine G.aload E dL_does_499 4 rfl ?_
      refine G.iload E dL_does_501 9 rfl ?_
      refine G.ialdW (q0 := 12) (p0 := 12) (n := 3) τ E dL_does_503 (wsD2_at12 _ _ _ _ _) (fun v37 => ?_)
      refine G.ialdW (q0 := 3) (p0 := 3) (n := 20) ν0 E dL_does_504 (wsD2_at3 _ _ _ _ _) (fun v38 => ?_)
      refine G.imul E dL_does_505 ?_
      refine G.iload E dL_does_506 7 rfl ?_
      refine G.idiv E dL_does_508 (fun v39 => ?_)
      refine G.aload_n E dL_does_509 0 rfl rfl ?_
      refine G.aload_n E dL_does_510 1 rfl rfl ?_
      refine G.aload E dL_does_511 2 rfl ?_
      refine G.aload E dL_does_513 3 rfl ?_
      refine G.callSiW (mc := 0) (ms := 0) (rm := rm_L_adds) (n := 7) (As := [.int v33, .int v34, .int v39, .ref (h 0), .ref (h 1), .ref (h 2), .ref (h 3)]) (fun x => (x, τ)) E dL_does_515 (fun _ _ hv => Con.inD2 hWN E.wf (c_L_adds hWN hv)) gL_does_L_adds rfl rfl rfl (by decide +kernel) ⟨Nat.le_of_ble_eq_true rfl, Nat.le_of_ble_eq_true rfl⟩ rfl (Nat.le_of_ble_eq_true rfl) ⟨by show _ ≤ 2; omega, by show _ ≤ 6; omega⟩ (fun v40 s41 => ?_)
      refine G.pop E dL_does_518 rfl ?_
      refine G.iinc (v := x13 + 1) (lv' := [(13, .int (x13 + 1)), (2, .ref (h 0)), (3, .ref (h 1)), (4, .ref (h 2)), (5, .ref (h 3)), (7, .ref q1), (8, .ref q2), (9, .int x9), (11, .int x11), (12, .int x12)]) E dL_does_519 9 rfl rfl (by decide) rfl ?_
      refine G.goto (tgt := 472) E dL_does_522 (by decide) ?_
      refine G.widen (k1 := cb) (n1 := sb) (by omega) (by omega) ?_
      refine G.loc [1, 2, 3, 4, 5, 6, 7, 8, 9, 0] rfl ?_
      exact ih (x13 + 1) s41
noncomputable def fl_L_does_459 {ρ : Type} (N : Nat) (τ : Wd) (x9 : Int32) (x11 : Int32) (K : Wd → Option (ρ)) : Nat → Int32 → Wd → Option (ρ)
  | 0, _, _ => none
  | n + 1, x12, ν0 =>
    if x9 ≤ x12 then (
      K ν0)
    else (
      lI (x12 + 1) fun v32 =>
      fl_L_does_472 N τ x9 x11 x12 (fun s42 =>
        fl_L_does_459 N τ x9 x11 K n (x12 + 1) s42) N v32 ν0)
set_option maxHeartbeats 4000000 in
set_option maxRecDepth 100000 in
theorem gl_L_does_459 {ρ : Type} {Q : ρ → State → Prop} {N : Nat} {q1 : Nat} {q2 : Nat} {τ : Wd} {x9 : Int32} {x11 : Int32} {cb sb : Nat} {K : Wd → Option (ρ)} (E : EV p s m args meth c cL_does 14 RL wsL_does (some .boolean) D cy (wsD2 cy h q1 q2) ((adN h ++ [q1]) ++ [q2])) (hWN : WF (wsN cy h) (adN h)) (E0 : EV p s m args meth c cL_does 14 RL wsL_does (some .boolean) D cy (wsN cy h) (adN h)) (hA : wA ((adN h ++ [q1]) ++ [q2]) s.heap.size = wA (adN h) s.heap.size) (hcb : cb ≤ 2) (hsb : sb ≤ 6) (hK : ∀ (ν0' : Wd), G p l e (headSpec wsL_does rm_L_does).room s m args below meth c 14 cb sb D (wsD2 cy h q1 q2) ((adN h ++ [q1]) ++ [q2]) Q 531 [] [] (ν0', τ) (K ν0')) :
  ∀ (n : Nat), ∀ (x12 : Int32) (ν0 : Wd), G p l e (headSpec wsL_does rm_L_does).room s m args below meth c 14 cb sb D (wsD2 cy h q1 q2) ((adN h ++ [q1]) ++ [q2]) Q 459 [(2, .ref (h 0)), (3, .ref (h 1)), (4, .ref (h 2)), (5, .ref (h 3)), (7, .ref q1), (8, .ref q2), (9, .int x9), (11, .int x11), (12, .int x12)] [] (ν0, τ) (fl_L_does_459 N τ x9 x11 K n x12 ν0) := by
  intro n
  induction n with
  | zero => intros; exact G.no
  | succ n ih =>
    intro x12 ν0
    rw [fl_L_does_459]
    refine G.iload E dL_does_459 8 rfl ?_
    refine G.iload E dL_does_461 6 rfl ?_
    refine G.icmp_ge (tgt := 531) E dL_does_463 (by decide) ?_ ?_
    · refine G.widen (k1 := cb) (n1 := sb) (by omega) (by omega) ?_
      refine G.loc [] rfl ?_
      exact hK ν0
    · refine G.iload E dL_does_466 8 rfl ?_
      refine G.iconst (v := 1) E dL_does_468 (by decide) ?_
      refine G.iadd E dL_does_469 ?_
      refine G.letI (fun v32 => ?_)
      refine G.istore (lv' := [(13, .int v32), (2, .ref (h 0)), (3, .ref (h 1)), (4, .ref (h 2)), (5, .ref (h 3)), (7, .ref q1), (8, .ref q2), (9, .int x9), (11, .int x11), (12, .int x12)]) E dL_does_470 (by decide) rfl ?_
      refine G.widen (k1 := cb) (n1 := sb) (by omega) (by omega) ?_
      refine G.loc [1, 2, 3, 4, 5, 6, 7, 8, 9, 0] rfl ?_
      refine gl_L_does_472 (cb := cb) (sb := sb) E hWN E0 hA (by omega) (by omega) (fun s42 => ?_) N _ _
      refine G.iinc (v := x12 + 1) (lv' := [(12, .int (x12 + 1)), (2, .ref (h 0)), (3, .ref (h 1)), (4, .ref (h 2)), (5, .ref (h 3)), (7, .ref q1), (8, .ref q2), (9, .int x9), (11, .int x11)]) E dL_does_525 8 rfl rfl (by decide) rfl ?_
      refine G.goto (tgt := 459) E dL_does_528 (by decide) ?_
      refine G.widen (k1 := cb) (n1 := sb) (by omega) (by omega) ?_
      refine G.loc [1, 2, 3, 4, 5, 6, 7, 8, 0] rfl ?_
      exact ih (x12 + 1) s42
noncomputable def f_L_does (N : Nat) (ν : Wd) (a0 : Int32) (a1 : Int32) : Option (Int32 × Wd) :=
  if a0 = 0 then (
    rI ν 1 20 a1 fun v70 =>
    rI ν 2 20 a1 fun v71 =>
    if v70 = v71 then (
      rI ν 0 6 4 fun v72 =>
      aI ν 0 6 4 (v72 &&& ((1 <<< (a1 &&& 31)) ^^^ (-1))) fun s73 =>
      some (1, s73))
    else (
      some (0, ν)))
  else (
    if a0 = 1 then (
      rI ν 1 20 a1 fun v53 =>
      bP (f_L_wiresOf N ν v53) fun v54 =>
      rI ν 2 20 a1 fun v55 =>
      bP (f_L_wiresOf N ν v55) fun v56 =>
      lI ((v54 &&& v56) &&& ((1 <<< (a1 &&& 31)) ^^^ (-1))) fun v57 =>
      rI ν 1 20 a1 fun v58 =>
      rI ν 2 20 a1 fun v59 =>
      if v58 = v59 then (
        some (0, ν))
      else (
        if v57 = 0 then (
          some (0, ν))
        else (
          rI ν 3 20 a1 fun v60 =>
          bP (f_L_lowest N v57) fun v61 =>
          rI ν 3 20 v61 fun v62 =>
          if (v60 + v62) ≤ 60 then (
            rI ν 3 20 a1 fun v63 =>
            bP (f_L_lowest N v57) fun v64 =>
            rI ν 3 20 v64 fun v65 =>
            aI ν 3 20 a1 (v63 + v65) fun s66 =>
            rI s66 0 6 4 fun v67 =>
            bP (f_L_lowest N v57) fun v68 =>
            aI s66 0 6 4 (v67 &&& ((1 <<< (v68 &&& 31)) ^^^ (-1))) fun s69 =>
            some (1, s69))
          else (
            some (0, ν)))))
    else (
      if a0 = 5 then (
        bS (f_L_stars N ν a1) fun v51 s52 =>
        zb v51 (some (v51, s52)))
      else (
        bP (f_L_wiresOf N ν a1) fun v1 =>
        lI (1 <<< (a1 &&& 31)) fun v2 =>
        fl_L_does_178 N ν a0 a1 v1 (fun v14 s15 =>
          rI ν 0 6 2 fun v16 =>
          if ((v16 >>> (a1 &&& 31)) &&& 1) = 1 then (
            some (0, ν))
          else (
            jn (fun (v17 : Int32) => ((
              if v14 = v17 then (
                fl_L_does_311 N ν s15 a0 a1 v1 v14 (fun v21 =>
                  jn (fun (_u : Unit) => ((
                    jn (fun (_u : Unit) => ((
                      fl_L_does_389 N ν s15 a0 a1 v1 v14 v21 (fun (_ : Unit) =>
                        rI ν 0 6 1 fun v28 =>
                        aI ν 0 6 1 (v28 &&& ((1 <<< (a1 &&& 31)) ^^^ (-1))) fun s29 =>
                        rI s29 0 6 4 fun v30 =>
                        aI s29 0 6 4 (v30 &&& (v1 ^^^ (-1))) fun s31 =>
                        fl_L_does_459 N s15 v14 v21 (fun s43 =>
                          some (1, s43)) N 0 s31) N 0) : Option (Int32 × Wd))) fun j386 =>
                    if a0 = 4 then (
                      rI ν 0 6 3 fun v44 =>
                      if v44 ≤ 17 then (
                        j386 ())
                      else (
                        some (0, ν)))
                    else (
                      j386 ())) : Option (Int32 × Wd))) fun j371 =>
                  if a0 = 3 then (
                    rI ν 0 6 3 fun v45 =>
                    if 19 < v45 then (
                      some (0, ν))
                    else (
                      rI s15 12 3 0 fun v46 =>
                      rI ν 3 20 v46 fun v47 =>
                      rI s15 12 3 1 fun v48 =>
                      rI ν 3 20 v48 fun v49 =>
                      mI (v47 * v49) v21 fun v50 =>
                      if 0 < v50 then (
                        some (0, ν))
                      else (
                        j371 ())))
                  else (
                    j371 ())) N 0 0)
              else (
                some (0, ν))) : Option (Int32 × Wd))) fun j300 =>
            if a0 = 2 then (
              j300 1)
            else (
              if a0 = 3 then (
                j300 2)
              else (
                j300 3)))) N 0 v2 0 z0)))
set_option maxHeartbeats 4000000 in
set_option maxRecDepth 100000 in
theorem c_L_does {l : Launch} {D : va_G} {cy : Nat → ClassId} {h : Nat → Nat} {N : Nat} {ν : Wd} {a0 : Int32} {a1 : Int32} {r : Int32} {ν1 : Wd} (hW : WF (wsN cy h) (adN h)) (hr : f_L_does N ν a0 a1 = some (r, ν1)) : Con l D cy (wsN cy h) (adN h) yL_does wsL_does rm_L_does 2 6 [.int a0, .int a1, .ref (h 0), .ref (h 1), .ref (h 2), .ref (h 3)] (some (.int r)) ν ν1 := by
  refine Con.ofM (ρ := Int32 × Wd) (lv0 := [(0, .int a0), (1, .int a1), (2, .ref (h 0)), (3, .ref (h 1)), (4, .ref (h 2)), (5, .ref (h 3))]) (σ := ν) (mc := 2) (ms := 6) (fun r : Int32 × Wd => some (.int r.1)) (fun r => r.2) (by decide) rfl rfl (Nat.le_of_ble_eq_true rfl) rfl hW hr (fun p e s m args below meth c E => ?_)
  unfold f_L_does
  refine G.iload_n E dL_does_0 0 rfl rfl ?_
  refine G.if_ne (tgt := 29) E dL_does_1 (by decide) ?_ ?_
  · refine G.aload_n E dL_does_4 3 rfl rfl ?_
    refine G.iload_n E dL_does_5 1 rfl rfl ?_
    refine G.ialdW (q0 := 1) (p0 := 1) (n := 20) ν E dL_does_6 (wsN_at1 _ _ _) (fun v70 => ?_)
    refine G.aload E dL_does_7 4 rfl ?_
    refine G.iload_n E dL_does_9 1 rfl rfl ?_
    refine G.ialdW (q0 := 2) (p0 := 2) (n := 20) ν E dL_does_10 (wsN_at2 _ _ _) (fun v71 => ?_)
    refine G.icmp_eq (tgt := 16) E dL_does_11 (by decide) ?_ ?_
    · refine G.aload_n E dL_does_16 2 rfl rfl ?_
      refine G.iconst (v := 4) E dL_does_17 (by decide) ?_
      refine G.dup2 E dL_does_18 rfl rfl ?_
      refine G.ialdW (q0 := 0) (p0 := 0) (n := 6) ν E dL_does_19 (wsN_at0 _ _ _) (fun v72 => ?_)
      refine G.iconst (v := 1) E dL_does_20 (by decide) ?_
      refine G.iload_n E dL_does_21 1 rfl rfl ?_
      refine G.ishl E dL_does_22 ?_
      refine G.iconst (v := (-1)) E dL_does_23 (by decide) ?_
      refine G.ixor E dL_does_24 ?_
      refine G.iand E dL_does_25 ?_
      refine G.iastW (q0 := 0) (p0 := 0) (n := 6) ν (fun x => x) E dL_does_26 (wsN_at0 _ _ _) (fun j => (wsN_set0 _ _ _ _ j)) (fun s73 => ?_)
      refine G.iconst (v := 1) E dL_does_27 (by decide) ?_
      refine G.widen (k1 := 2) (n1 := 6) (by omega) (by omega) ?_
      exact G.zretc E dL_does_28 rfl rfl rfl
    · refine G.iconst (v := 0) E dL_does_14 (by decide) ?_
      refine G.widen (k1 := 2) (n1 := 6) (by omega) (by omega) ?_
      exact G.zretc E dL_does_15 rfl rfl rfl
  · refine G.iload_n E dL_does_29 0 rfl rfl ?_
    refine G.iconst (v := 1) E dL_does_30 (by decide) ?_
    refine G.icmp_ne (tgt := 131) E dL_does_31 (by decide) ?_ ?_
    · refine G.aload_n E dL_does_34 3 rfl rfl ?_
      refine G.iload_n E dL_does_35 1 rfl rfl ?_
      refine G.ialdW (q0 := 1) (p0 := 1) (n := 20) ν E dL_does_36 (wsN_at1 _ _ _) (fun v53 => ?_)
      refine G.aload_n E dL_does_37 2 rfl rfl ?_
      refine G.aload_n E dL_does_38 3 rfl rfl ?_
      refine G.aload E dL_does_39 4 rfl ?_
      refine G.callSi (mc := 0) (ms := 0) (rm := rm_L_wiresOf) (n := 4) (As := [.int v53, .ref (h 0), .ref (h 1), .ref (h 2)]) E dL_does_41 (fun _ hv => c_L_wiresOf E.wf hv) gL_does_L_wiresOf rfl rfl rfl (by decide +kernel) ⟨Nat.le_of_ble_eq_true rfl, Nat.le_of_ble_eq_true rfl⟩ rfl (Nat.le_of_ble_eq_true rfl) ⟨by show _ ≤ 2; omega, by show _ ≤ 6; omega⟩ (fun v54 => ?_)
      refine G.aload E dL_does_44 4 rfl ?_
      refine G.iload_n E dL_does_46 1 rfl rfl ?_
      refine G.ialdW (q0 := 2) (p0 := 2) (n := 20) ν E dL_does_47 (wsN_at2 _ _ _) (fun v55 => ?_)
      refine G.aload_n E dL_does_48 2 rfl rfl ?_
      refine G.aload_n E dL_does_49 3 rfl rfl ?_
      refine G.aload E dL_does_50 4 rfl ?_
      refine G.callSi (mc := 0) (ms := 0) (rm := rm_L_wiresOf) (n := 4) (As := [.int v55, .ref (h 0), .ref (h 1), .ref (h 2)]) E dL_does_52 (fun _ hv => c_L_wiresOf E.wf hv) gL_does_L_wiresOf rfl rfl rfl (by decide +kernel) ⟨Nat.le_of_ble_eq_true rfl, Nat.le_of_ble_eq_true rfl⟩ rfl (Nat.le_of_ble_eq_true rfl) ⟨by show _ ≤ 2; omega, by show _ ≤ 6; omega⟩ (fun v56 => ?_)
      refine G.iand E dL_does_55 ?_
      refine G.iconst (v := 1) E dL_does_56 (by decide) ?_
      refine G.iload_n E dL_does_57 1 rfl rfl ?_
      refine G.ishl E dL_does_58 ?_
      refine G.iconst (v := (-1)) E dL_does_59 (by decide) ?_
      refine G.ixor E dL_does_60 ?_
      refine G.iand E dL_does_61 ?_
      refine G.letI (fun v57 => ?_)
      refine G.istore (lv' := [(6, .int v57), (0, .int a0), (1, .int a1), (2, .ref (h 0)), (3, .ref (h 1)), (4, .ref (h 2)), (5, .ref (h 3))]) E dL_does_62 (by decide) rfl ?_
      refine G.aload_n E dL_does_64 4 rfl rfl ?_
      refine G.iload_n E dL_does_65 2 rfl rfl ?_
      refine G.ialdW (q0 := 1) (p0 := 1) (n := 20) ν E dL_does_66 (wsN_at1 _ _ _) (fun v58 => ?_)
      refine G.aload E dL_does_67 5 rfl ?_
      refine G.iload_n E dL_does_69 2 rfl rfl ?_
      refine G.ialdW (q0 := 2) (p0 := 2) (n := 20) ν E dL_does_70 (wsN_at2 _ _ _) (fun v59 => ?_)
      refine G.icmp_eq (tgt := 97) E dL_does_71 (by decide) ?_ ?_
      · refine G.iconst (v := 0) E dL_does_97 (by decide) ?_
        refine G.widen (k1 := 2) (n1 := 6) (by omega) (by omega) ?_
        exact G.zretc E dL_does_98 rfl rfl rfl
      · refine G.iload E dL_does_74 0 rfl ?_
        refine G.if_eq (tgt := 97) E dL_does_76 (by decide) ?_ ?_
        · refine G.iconst (v := 0) E dL_does_97 (by decide) ?_
          refine G.widen (k1 := 2) (n1 := 6) (by omega) (by omega) ?_
          exact G.zretc E dL_does_98 rfl rfl rfl
        · refine G.aload E dL_does_79 6 rfl ?_
          refine G.iload_n E dL_does_81 2 rfl rfl ?_
          refine G.ialdW (q0 := 3) (p0 := 3) (n := 20) ν E dL_does_82 (wsN_at3 _ _ _) (fun v60 => ?_)
          refine G.aload E dL_does_83 6 rfl ?_
          refine G.iload E dL_does_85 0 rfl ?_
          refine G.callSi (mc := 0) (ms := 0) (rm := rm_L_lowest) (n := 1) (As := [.int v57]) E dL_does_87 (fun _ hv => c_L_lowest E.wf hv) gL_does_L_lowest rfl rfl rfl (by decide +kernel) ⟨Nat.le_of_ble_eq_true rfl, Nat.le_of_ble_eq_true rfl⟩ rfl (Nat.le_of_ble_eq_true rfl) ⟨by show _ ≤ 2; omega, by show _ ≤ 6; omega⟩ (fun v61 => ?_)
          refine G.ialdW (q0 := 3) (p0 := 3) (n := 20) ν E dL_does_90 (wsN_at3 _ _ _) (fun v62 => ?_)
          refine G.iadd E dL_does_91 ?_
          refine G.bipush (v := 60) E dL_does_92 (by decide) ?_
          refine G.icmp_le (tgt := 99) E dL_does_94 (by decide) ?_ ?_
          · refine G.aload E dL_does_99 6 rfl ?_
            refine G.iload_n E dL_does_101 2 rfl rfl ?_
            refine G.dup2 E dL_does_102 rfl rfl ?_
            refine G.ialdW (q0 := 3) (p0 := 3) (n := 20) ν E dL_does_103 (wsN_at3 _ _ _) (fun v63 => ?_)
            refine G.aload E dL_does_104 6 rfl ?_
            refine G.iload E dL_does_106 0 rfl ?_
            refine G.callSi (mc := 0) (ms := 0) (rm := rm_L_lowest) (n := 1) (As := [.int v57]) E dL_does_108 (fun _ hv => c_L_lowest E.wf hv) gL_does_L_lowest rfl rfl rfl (by decide +kernel) ⟨Nat.le_of_ble_eq_true rfl, Nat.le_of_ble_eq_true rfl⟩ rfl (Nat.le_of_ble_eq_true rfl) ⟨by show _ ≤ 2; omega, by show _ ≤ 6; omega⟩ (fun v64 => ?_)
            refine G.ialdW (q0 := 3) (p0 := 3) (n := 20) ν E dL_does_111 (wsN_at3 _ _ _) (fun v65 => ?_)
            refine G.iadd E dL_does_112 ?_
            refine G.iastW (q0 := 3) (p0 := 3) (n := 20) ν (fun x => x) E dL_does_113 (wsN_at3 _ _ _) (fun j => (wsN_set3 _ _ _ _ j)) (fun s66 => ?_)
            refine G.aload_n E dL_does_114 3 rfl rfl ?_
            refine G.iconst (v := 4) E dL_does_115 (by decide) ?_
            refine G.dup2 E dL_does_116 rfl rfl ?_
            refine G.ialdW (q0 := 0) (p0 := 0) (n := 6) s66 E dL_does_117 (wsN_at0 _ _ _) (fun v67 => ?_)
            refine G.iconst (v := 1) E dL_does_118 (by decide) ?_
            refine G.iload E dL_does_119 0 rfl ?_
            refine G.callSi (mc := 0) (ms := 0) (rm := rm_L_lowest) (n := 1) (As := [.int v57]) E dL_does_121 (fun _ hv => c_L_lowest E.wf hv) gL_does_L_lowest rfl rfl rfl (by decide +kernel) ⟨Nat.le_of_ble_eq_true rfl, Nat.le_of_ble_eq_true rfl⟩ rfl (Nat.le_of_ble_eq_true rfl) ⟨by show _ ≤ 2; omega, by show _ ≤ 6; omega⟩ (fun v68 => ?_)
            refine G.ishl E dL_does_124 ?_
            refine G.iconst (v := (-1)) E dL_does_125 (by decide) ?_
            refine G.ixor E dL_does_126 ?_
            refine G.iand E dL_does_127 ?_
            refine G.iastW (q0 := 0) (p0 := 0) (n := 6) s66 (fun x => x) E dL_does_128 (wsN_at0 _ _ _) (fun j => (wsN_set0 _ _ _ _ j)) (fun s69 => ?_)
            refine G.iconst (v := 1) E dL_does_129 (by decide) ?_
            refine G.widen (k1 := 2) (n1 := 6) (by omega) (by omega) ?_
            exact G.zretc E dL_does_130 rfl rfl rfl
          · refine G.iconst (v := 0) E dL_does_97 (by decide) ?_
            refine G.widen (k1 := 2) (n1 := 6) (by omega) (by omega) ?_
            exact G.zretc E dL_does_98 rfl rfl rfl
    · refine G.iload_n E dL_does_131 0 rfl rfl ?_
      refine G.iconst (v := 5) E dL_does_132 (by decide) ?_
      refine G.icmp_ne (tgt := 147) E dL_does_133 (by decide) ?_ ?_
      · refine G.iload_n E dL_does_136 1 rfl rfl ?_
        refine G.aload_n E dL_does_137 2 rfl rfl ?_
        refine G.aload_n E dL_does_138 3 rfl rfl ?_
        refine G.aload E dL_does_139 4 rfl ?_
        refine G.aload E dL_does_141 5 rfl ?_
        refine G.callSiW (mc := 0) (ms := 0) (rm := rm_L_stars) (n := 5) (As := [.int a1, .ref (h 0), .ref (h 1), .ref (h 2), .ref (h 3)]) (fun x => x) E dL_does_143 (fun _ _ hv => c_L_stars E.wf hv) gL_does_L_stars rfl rfl rfl (by decide +kernel) ⟨Nat.le_of_ble_eq_true rfl, Nat.le_of_ble_eq_true rfl⟩ rfl (Nat.le_of_ble_eq_true rfl) ⟨by show _ ≤ 2; omega, by show _ ≤ 6; omega⟩ (fun v51 s52 => ?_)
        refine G.widen (k1 := 2) (n1 := 6) (by omega) (by omega) ?_
        exact G.zret E dL_does_146 rfl rfl
      · refine G.iload_n E dL_does_147 1 rfl rfl ?_
        refine G.aload_n E dL_does_148 2 rfl rfl ?_
        refine G.aload_n E dL_does_149 3 rfl rfl ?_
        refine G.aload E dL_does_150 4 rfl ?_
        refine G.callSi (mc := 0) (ms := 0) (rm := rm_L_wiresOf) (n := 4) (As := [.int a1, .ref (h 0), .ref (h 1), .ref (h 2)]) E dL_does_152 (fun _ hv => c_L_wiresOf E.wf hv) gL_does_L_wiresOf rfl rfl rfl (by decide +kernel) ⟨Nat.le_of_ble_eq_true rfl, Nat.le_of_ble_eq_true rfl⟩ rfl (Nat.le_of_ble_eq_true rfl) ⟨by show _ ≤ 2; omega, by show _ ≤ 6; omega⟩ (fun v1 => ?_)
        refine G.istore (lv' := [(6, .int v1), (0, .int a0), (1, .int a1), (2, .ref (h 0)), (3, .ref (h 1)), (4, .ref (h 2)), (5, .ref (h 3))]) E dL_does_155 (by decide) rfl ?_
        refine G.iconst (v := 3) E dL_does_157 (by decide) ?_
        have E0 := E
        have hWN := E.wf
        refine G.newI (N' := 3) (fun q => wsD1 cy h q) (ν, z0) E dL_does_158 (List.mem_of_getElem? (i := 1) rfl) (by decide) (by decide) (by decide) ⟨by show _ ≤ 2; omega, by show _ ≤ 6; omega⟩ (fun _ => rfl) (fun q => wfD1 cy h q) (fun q1 E1 hA1 => ?_)
        have E := E1
        have hA := hA1
        refine G.astore (lv' := [(7, .ref q1), (6, .int v1), (0, .int a0), (1, .int a1), (2, .ref (h 0)), (3, .ref (h 1)), (4, .ref (h 2)), (5, .ref (h 3))]) E dL_does_160 (by decide) rfl ?_
        refine G.iconst (v := 3) E dL_does_162 (by decide) ?_
        refine G.newI (N' := 3) (fun q => wsD2 cy h q1 q) (ν, z0) E dL_does_163 (List.mem_of_getElem? (i := 1) rfl) (by decide) (by decide) (by decide) ⟨by show _ ≤ 2; omega, by show _ ≤ 6; omega⟩ (fun _ => rfl) (fun q => wfD2 cy h q1 q) (fun q2 E2 hA2 => ?_)
        have E := E2
        have hA := hA2.trans hA1
        refine G.astore (lv' := [(8, .ref q2), (7, .ref q1), (6, .int v1), (0, .int a0), (1, .int a1), (2, .ref (h 0)), (3, .ref (h 1)), (4, .ref (h 2)), (5, .ref (h 3))]) E dL_does_165 (by decide) rfl ?_
        refine G.iconst (v := 0) E dL_does_167 (by decide) ?_
        refine G.istore (lv' := [(9, .int 0), (8, .ref q2), (7, .ref q1), (6, .int v1), (0, .int a0), (1, .int a1), (2, .ref (h 0)), (3, .ref (h 1)), (4, .ref (h 2)), (5, .ref (h 3))]) E dL_does_168 (by decide) rfl ?_
        refine G.iconst (v := 1) E dL_does_170 (by decide) ?_
        refine G.iload_n E dL_does_171 5 rfl rfl ?_
        refine G.ishl E dL_does_172 ?_
        refine G.letI (fun v2 => ?_)
        refine G.istore (lv' := [(10, .int v2), (9, .int 0), (8, .ref q2), (7, .ref q1), (6, .int v1), (0, .int a0), (1, .int a1), (2, .ref (h 0)), (3, .ref (h 1)), (4, .ref (h 2)), (5, .ref (h 3))]) E dL_does_173 (by decide) rfl ?_
        refine G.iconst (v := 0) E dL_does_175 (by decide) ?_
        refine G.istore (lv' := [(11, .int 0), (10, .int v2), (9, .int 0), (8, .ref q2), (7, .ref q1), (6, .int v1), (0, .int a0), (1, .int a1), (2, .ref (h 0)), (3, .ref (h 1)), (4, .ref (h 2)), (5, .ref (h 3))]) E dL_does_176 (by decide) rfl ?_
        refine G.widen (k1 := 2) (n1 := 6) (by omega) (by omega) ?_
        refine G.loc [6, 7, 8, 9, 10, 11, 5, 4, 3, 2, 1, 0] rfl ?_
        refine gl_L_does_178 (cb := 2) (sb := 6) E hWN E0 hA (by omega) (by omega) (fun v14 s15 => ?_) N _ _ _ _
        refine G.aload_n E dL_does_268 2 rfl rfl ?_
        refine G.iconst (v := 2) E dL_does_269 (by decide) ?_
        refine G.ialdW (q0 := 0) (p0 := 0) (n := 6) ν E dL_does_270 (wsD2_at0 _ _ _ _ _) (fun v16 => ?_)
        refine G.iload_n E dL_does_271 1 rfl rfl ?_
        refine G.ishr E dL_does_272 ?_
        refine G.iconst (v := 1) E dL_does_273 (by decide) ?_
        refine G.iand E dL_does_274 ?_
        refine G.iconst (v := 1) E dL_does_275 (by decide) ?_
        refine G.icmp_eq (tgt := 303) E dL_does_276 (by decide) ?_ ?_
        · refine G.iconst (v := 0) E dL_does_303 (by decide) ?_
          refine G.widen (k1 := 2) (n1 := 6) (by omega) (by omega) ?_
          refine G.drop (ws := wsN cy h) (ad := adN h) (σ := ν) (fun H hp => vP_left (A := wsN cy h ν) hp) hA ?_
          exact G.zretc E0 dL_does_304 rfl rfl rfl
        · refine G.iload E dL_does_279 9 rfl ?_
          refine G.iload_n E dL_does_281 0 rfl rfl ?_
          refine G.iconst (v := 2) E dL_does_282 (by decide) ?_
          refine G.jn (P := fun j => ∀ (v17 : Int32), G p l e (headSpec wsL_does rm_L_does).room s m args below meth c 14 2 6 D (wsD2 cy h q1 q2) ((adN h ++ [q1]) ++ [q2]) (QM D (wsN cy h) (adN h) below args s 2 6 (fun r : Int32 × Wd => some (.int r.1)) (fun r => r.2)) 300 [(0, .int a0), (1, .int a1), (2, .ref (h 0)), (3, .ref (h 1)), (4, .ref (h 2)), (5, .ref (h 3)), (6, .int v1), (7, .ref q1), (8, .ref q2), (9, .int v14)] [.int v17, .int v14] (ν, s15) (j v17)) ?_ (fun j300 hj300 => ?_)
          · intro v17
            refine G.icmp_eq (tgt := 305) E dL_does_300 (by decide) ?_ ?_
            · refine G.iconst (v := 0) E dL_does_305 (by decide) ?_
              refine G.istore (lv' := [(11, .int 0), (0, .int a0), (1, .int a1), (2, .ref (h 0)), (3, .ref (h 1)), (4, .ref (h 2)), (5, .ref (h 3)), (6, .int v1), (7, .ref q1), (8, .ref q2), (9, .int v14)]) E dL_does_306 (by decide) rfl ?_
              refine G.iconst (v := 0) E dL_does_308 (by decide) ?_
              refine G.istore (lv' := [(12, .int 0), (11, .int 0), (0, .int a0), (1, .int a1), (2, .ref (h 0)), (3, .ref (h 1)), (4, .ref (h 2)), (5, .ref (h 3)), (6, .int v1), (7, .ref q1), (8, .ref q2), (9, .int v14)]) E dL_does_309 (by decide) rfl ?_
              refine G.widen (k1 := 2) (n1 := 6) (by omega) (by omega) ?_
              refine G.loc [2, 3, 4, 5, 6, 7, 8, 9, 10, 11, 1, 0] rfl ?_
              refine gl_L_does_311 (cb := 2) (sb := 6) E hWN E0 hA (by omega) (by omega) (fun v21 => ?_) N _ _
              refine G.iload_n E dL_does_337 0 rfl rfl ?_
              refine G.iconst (v := 3) E dL_does_338 (by decide) ?_
              refine G.jn (P := fun j => ∀ (_u : Unit), G p l e (headSpec wsL_does rm_L_does).room s m args below meth c 14 2 6 D (wsD2 cy h q1 q2) ((adN h ++ [q1]) ++ [q2]) (QM D (wsN cy h) (adN h) below args s 2 6 (fun r : Int32 × Wd => some (.int r.1)) (fun r => r.2)) 371 [(0, .int a0), (1, .int a1), (2, .ref (h 0)), (3, .ref (h 1)), (4, .ref (h 2)), (5, .ref (h 3)), (6, .int v1), (7, .ref q1), (8, .ref q2), (9, .int v14), (11, .int v21)] [] (ν, s15) (j _u)) ?_ (fun j371 hj371 => ?_)
              · intro _u
                refine G.iload_n E dL_does_371 0 rfl rfl ?_
                refine G.iconst (v := 4) E dL_does_372 (by decide) ?_
                refine G.jn (P := fun j => ∀ (_u : Unit), G p l e (headSpec wsL_does rm_L_does).room s m args below meth c 14 2 6 D (wsD2 cy h q1 q2) ((adN h ++ [q1]) ++ [q2]) (QM D (wsN cy h) (adN h) below args s 2 6 (fun r : Int32 × Wd => some (.int r.1)) (fun r => r.2)) 386 [(0, .int a0), (1, .int a1), (2, .ref (h 0)), (3, .ref (h 1)), (4, .ref (h 2)), (5, .ref (h 3)), (6, .int v1), (7, .ref q1), (8, .ref q2), (9, .int v14), (11, .int v21)] [] (ν, s15) (j _u)) ?_ (fun j386 hj386 => ?_)
                · intro _u
                  refine G.iconst (v := 0) E dL_does_386 (by decide) ?_
                  refine G.istore (lv' := [(12, .int 0), (0, .int a0), (1, .int a1), (2, .ref (h 0)), (3, .ref (h 1)), (4, .ref (h 2)), (5, .ref (h 3)), (6, .int v1), (7, .ref q1), (8, .ref q2), (9, .int v14), (11, .int v21)]) E dL_does_387 (by decide) rfl ?_
                  refine G.widen (k1 := 2) (n1 := 6) (by omega) (by omega) ?_
                  refine G.loc [1, 2, 3, 4, 5, 6, 7, 8, 9, 10, 11, 0] rfl ?_
                  refine gl_L_does_389 (cb := 2) (sb := 6) E hWN E0 hA (by omega) (by omega) (fun _ => ?_) N _
                  refine G.aload_n E dL_does_435 1 rfl rfl ?_
                  refine G.iconst (v := 1) E dL_does_436 (by decide) ?_
                  refine G.dup2 E dL_does_437 rfl rfl ?_
                  refine G.ialdW (q0 := 0) (p0 := 0) (n := 6) ν E dL_does_438 (wsD2_at0 _ _ _ _ _) (fun v28 => ?_)
                  refine G.iconst (v := 1) E dL_does_439 (by decide) ?_
                  refine G.iload_n E dL_does_440 0 rfl rfl ?_
                  refine G.ishl E dL_does_441 ?_
                  refine G.iconst (v := (-1)) E dL_does_442 (by decide) ?_
                  refine G.ixor E dL_does_443 ?_
                  refine G.iand E dL_does_444 ?_
                  refine G.iastW (q0 := 0) (p0 := 0) (n := 6) ν (fun x => (x, s15)) E dL_does_445 (wsD2_at0 _ _ _ _ _) (fun j => (wsD2_set0 _ _ _ _ _ _ _ j)) (fun s29 => ?_)
                  refine G.aload_n E dL_does_446 1 rfl rfl ?_
                  refine G.iconst (v := 4) E dL_does_447 (by decide) ?_
                  refine G.dup2 E dL_does_448 rfl rfl ?_
                  refine G.ialdW (q0 := 0) (p0 := 0) (n := 6) s29 E dL_does_449 (wsD2_at0 _ _ _ _ _) (fun v30 => ?_)
                  refine G.iload E dL_does_450 5 rfl ?_
                  refine G.iconst (v := (-1)) E dL_does_452 (by decide) ?_
                  refine G.ixor E dL_does_453 ?_
                  refine G.iand E dL_does_454 ?_
                  refine G.iastW (q0 := 0) (p0 := 0) (n := 6) s29 (fun x => (x, s15)) E dL_does_455 (wsD2_at0 _ _ _ _ _) (fun j => (wsD2_set0 _ _ _ _ _ _ _ j)) (fun s31 => ?_)
                  refine G.iconst (v := 0) E dL_does_456 (by decide) ?_
                  refine G.istore (lv' := [(12, .int 0), (1, .int a1), (2, .ref (h 0)), (3, .ref (h 1)), (4, .ref (h 2)), (5, .ref (h 3)), (6, .int v1), (7, .ref q1), (8, .ref q2), (9, .int v14), (11, .int v21)]) E dL_does_457 (by decide) rfl ?_
                  refine G.widen (k1 := 2) (n1 := 6) (by omega) (by omega) ?_
                  refine G.loc [2, 3, 4, 5, 7, 8, 9, 10, 0] rfl ?_
                  refine gl_L_does_459 (cb := 2) (sb := 6) E hWN E0 hA (by omega) (by omega) (fun s43 => ?_) N _ _
                  refine G.iconst (v := 1) E dL_does_531 (by decide) ?_
                  refine G.widen (k1 := 2) (n1 := 6) (by omega) (by omega) ?_
                  refine G.drop (ws := wsN cy h) (ad := adN h) (σ := s43) (fun H hp => vP_left (A := wsN cy h s43) hp) hA ?_
                  exact G.zretc E0 dL_does_532 rfl rfl rfl
                · refine G.icmp_ne (tgt := 386) E dL_does_373 (by decide) ?_ ?_
                  · refine G.aload_n E dL_does_376 2 rfl rfl ?_
                    refine G.iconst (v := 3) E dL_does_377 (by decide) ?_
                    refine G.ialdW (q0 := 0) (p0 := 0) (n := 6) ν E dL_does_378 (wsD2_at0 _ _ _ _ _) (fun v44 => ?_)
                    refine G.bipush (v := 17) E dL_does_379 (by decide) ?_
                    refine G.icmp_le (tgt := 386) E dL_does_381 (by decide) ?_ ?_
                    · refine G.widen (k1 := 2) (n1 := 6) (by omega) (by omega) ?_
                      refine G.loc [0, 1, 2, 3, 4, 5, 6, 7, 8, 9, 10] rfl ?_
                      exact hj386 ()
                    · refine G.iconst (v := 0) E dL_does_384 (by decide) ?_
                      refine G.widen (k1 := 2) (n1 := 6) (by omega) (by omega) ?_
                      refine G.drop (ws := wsN cy h) (ad := adN h) (σ := ν) (fun H hp => vP_left (A := wsN cy h ν) hp) hA ?_
                      exact G.zretc E0 dL_does_385 rfl rfl rfl
                  · refine G.widen (k1 := 2) (n1 := 6) (by omega) (by omega) ?_
                    refine G.loc [0, 1, 2, 3, 4, 5, 6, 7, 8, 9, 10] rfl ?_
                    exact hj386 ()
              · refine G.icmp_ne (tgt := 371) E dL_does_339 (by decide) ?_ ?_
                · refine G.aload_n E dL_does_342 2 rfl rfl ?_
                  refine G.iconst (v := 3) E dL_does_343 (by decide) ?_
                  refine G.ialdW (q0 := 0) (p0 := 0) (n := 6) ν E dL_does_344 (wsD2_at0 _ _ _ _ _) (fun v45 => ?_)
                  refine G.bipush (v := 19) E dL_does_345 (by decide) ?_
                  refine G.icmp_gt (tgt := 384) E dL_does_347 (by decide) ?_ ?_
                  · refine G.iconst (v := 0) E dL_does_384 (by decide) ?_
                    refine G.widen (k1 := 2) (n1 := 6) (by omega) (by omega) ?_
                    refine G.drop (ws := wsN cy h) (ad := adN h) (σ := ν) (fun H hp => vP_left (A := wsN cy h ν) hp) hA ?_
                    exact G.zretc E0 dL_does_385 rfl rfl rfl
                  · refine G.aload E dL_does_350 5 rfl ?_
                    refine G.aload E dL_does_352 7 rfl ?_
                    refine G.iconst (v := 0) E dL_does_354 (by decide) ?_
                    refine G.ialdW (q0 := 12) (p0 := 12) (n := 3) s15 E dL_does_355 (wsD2_at12 _ _ _ _ _) (fun v46 => ?_)
                    refine G.ialdW (q0 := 3) (p0 := 3) (n := 20) ν E dL_does_356 (wsD2_at3 _ _ _ _ _) (fun v47 => ?_)
                    refine G.aload E dL_does_357 5 rfl ?_
                    refine G.aload E dL_does_359 7 rfl ?_
                    refine G.iconst (v := 1) E dL_does_361 (by decide) ?_
                    refine G.ialdW (q0 := 12) (p0 := 12) (n := 3) s15 E dL_does_362 (wsD2_at12 _ _ _ _ _) (fun v48 => ?_)
                    refine G.ialdW (q0 := 3) (p0 := 3) (n := 20) ν E dL_does_363 (wsD2_at3 _ _ _ _ _) (fun v49 => ?_)
                    refine G.imul E dL_does_364 ?_
                    refine G.iload E dL_does_365 10 rfl ?_
                    refine G.irem E dL_does_367 (fun v50 => ?_)
                    refine G.if_gt (tgt := 384) E dL_does_368 (by decide) ?_ ?_
                    · refine G.iconst (v := 0) E dL_does_384 (by decide) ?_
                      refine G.widen (k1 := 2) (n1 := 6) (by omega) (by omega) ?_
                      refine G.drop (ws := wsN cy h) (ad := adN h) (σ := ν) (fun H hp => vP_left (A := wsN cy h ν) hp) hA ?_
                      exact G.zretc E0 dL_does_385 rfl rfl rfl
                    · refine G.widen (k1 := 2) (n1 := 6) (by omega) (by omega) ?_
                      refine G.loc [0, 1, 2, 3, 4, 5, 6, 7, 8, 9, 10] rfl ?_
                      exact hj371 ()
                · refine G.widen (k1 := 2) (n1 := 6) (by omega) (by omega) ?_
                  refine G.loc [0, 1, 2, 3, 4, 5, 6, 7, 8, 9, 10] rfl ?_
                  exact hj371 ()
            · refine G.iconst (v := 0) E dL_does_303 (by decide) ?_
              refine G.widen (k1 := 2) (n1 := 6) (by omega) (by omega) ?_
              refine G.drop (ws := wsN cy h) (ad := adN h) (σ := ν) (fun H hp => vP_left (A := wsN cy h ν) hp) hA ?_
              exact G.zretc E0 dL_does_304 rfl rfl rfl
          · refine G.icmp_ne (tgt := 290) E dL_does_283 (by decide) ?_ ?_
            · refine G.iconst (v := 1) E dL_does_286 (by decide) ?_
              refine G.goto (tgt := 300) E dL_does_287 (by decide) ?_
              refine G.widen (k1 := 2) (n1 := 6) (by omega) (by omega) ?_
              refine G.loc [0, 1, 2, 3, 4, 5, 6, 7, 8, 9] rfl ?_
              exact hj300 1
            · refine G.iload_n E dL_does_290 0 rfl rfl ?_
              refine G.iconst (v := 3) E dL_does_291 (by decide) ?_
              refine G.icmp_ne (tgt := 299) E dL_does_292 (by decide) ?_ ?_
              · refine G.iconst (v := 2) E dL_does_295 (by decide) ?_
                refine G.goto (tgt := 300) E dL_does_296 (by decide) ?_
                refine G.widen (k1 := 2) (n1 := 6) (by omega) (by omega) ?_
                refine G.loc [0, 1, 2, 3, 4, 5, 6, 7, 8, 9] rfl ?_
                exact hj300 2
              · refine G.iconst (v := 3) E dL_does_299 (by decide) ?_
                refine G.widen (k1 := 2) (n1 := 6) (by omega) (by omega) ?_
                refine G.loc [0, 1, 2, 3, 4, 5, 6, 7, 8, 9] rfl ?_
                exact hj300 3
abbrev rm_L_copies : Room := { frames := 0, cells := 0, slots := 0, locals := 0 }
noncomputable def fl_L_copies_4_0_2 {ρ : Type} (N : Nat) (K : Wd → Option (ρ)) : Nat → Int32 → Wd → Option (ρ)
  | 0, _, _ => none
  | n + 1, x2, ν0 =>
    if 6 ≤ x2 then (
      K ν0)
    else (
      rI ν0 4 6 x2 fun v1 =>
      aI ν0 0 6 x2 v1 fun s2 =>
      fl_L_copies_4_0_2 N K n (x2 + 1) s2)
set_option maxHeartbeats 4000000 in
set_option maxRecDepth 100000 in
theorem gl_L_copies_4_0_2 {ρ : Type} {Q : ρ → State → Prop} {N : Nat} {cb sb : Nat} {K : Wd → Option (ρ)} (E : EV p s m args meth c cL_copies 3 RL wsL_copies none D cy (wsN cy h) (adN h)) (hcb : cb ≤ 0) (hsb : sb ≤ 0) (hK : ∀ (ν0' : Wd), G p l e (headSpec wsL_copies rm_L_copies).room s m args below meth c 3 cb sb D (wsN cy h) (adN h) Q 20 [] [] ν0' (K ν0')) :
  ∀ (n : Nat), ∀ (x2 : Int32) (ν0 : Wd), G p l e (headSpec wsL_copies rm_L_copies).room s m args below meth c 3 cb sb D (wsN cy h) (adN h) Q 2 [(0, .ref (h 4)), (1, .ref (h 0)), (2, .int x2)] [] ν0 (fl_L_copies_4_0_2 N K n x2 ν0) := by
  intro n
  induction n with
  | zero => intros; exact G.no
  | succ n ih =>
    intro x2 ν0
    rw [fl_L_copies_4_0_2]
    refine G.iload_n E dL_copies_2 2 rfl rfl ?_
    refine G.aload_n E dL_copies_3 0 rfl rfl ?_
    refine G.alen (q0 := 4) (t0 := 0) (v := 6) E dL_copies_4 (wsN_at4 _ _ _) rfl rfl ?_
    refine G.icmp_ge (tgt := 20) E dL_copies_5 (by decide) ?_ ?_
    · refine G.widen (k1 := cb) (n1 := sb) (by omega) (by omega) ?_
      refine G.loc [] rfl ?_
      exact hK ν0
    · refine G.aload_n E dL_copies_8 1 rfl rfl ?_
      refine G.iload_n E dL_copies_9 2 rfl rfl ?_
      refine G.aload_n E dL_copies_10 0 rfl rfl ?_
      refine G.iload_n E dL_copies_11 2 rfl rfl ?_
      refine G.ialdW (q0 := 4) (p0 := 4) (n := 6) ν0 E dL_copies_12 (wsN_at4 _ _ _) (fun v1 => ?_)
      refine G.iastW (q0 := 0) (p0 := 0) (n := 6) ν0 (fun x => x) E dL_copies_13 (wsN_at0 _ _ _) (fun j => (wsN_set0 _ _ _ _ j)) (fun s2 => ?_)
      refine G.iinc (v := x2 + 1) (lv' := [(2, .int (x2 + 1)), (0, .ref (h 4)), (1, .ref (h 0))]) E dL_copies_14 2 rfl rfl (by decide) rfl ?_
      refine G.goto (tgt := 2) E dL_copies_17 (by decide) ?_
      refine G.widen (k1 := cb) (n1 := sb) (by omega) (by omega) ?_
      refine G.loc [1, 2, 0] rfl ?_
      exact ih (x2 + 1) s2
noncomputable def f_L_copies_4_0 (N : Nat) (ν : Wd) : Option (Wd) :=
  fl_L_copies_4_0_2 N (fun s3 =>
    some s3) N 0 ν
set_option maxHeartbeats 4000000 in
set_option maxRecDepth 100000 in
theorem c_L_copies_4_0 {l : Launch} {D : va_G} {cy : Nat → ClassId} {h : Nat → Nat} {N : Nat} {ν : Wd}  {ν1 : Wd} (hW : WF (wsN cy h) (adN h)) (hr : f_L_copies_4_0 N ν = some ν1) : Con l D cy (wsN cy h) (adN h) yL_copies wsL_copies rm_L_copies 0 0 [.ref (h 4), .ref (h 0)] (none) ν ν1 := by
  refine Con.ofM (ρ := Wd) (lv0 := [(0, .ref (h 4)), (1, .ref (h 0))]) (σ := ν) (mc := 0) (ms := 0) (fun _ : Wd => none) (fun r => r) (by decide) rfl rfl (Nat.le_of_ble_eq_true rfl) rfl hW hr (fun p e s m args below meth c E => ?_)
  unfold f_L_copies_4_0
  refine G.iconst (v := 0) E dL_copies_0 (by decide) ?_
  refine G.istore_n (lv' := [(2, .int 0), (0, .ref (h 4)), (1, .ref (h 0))]) E dL_copies_1 rfl (by decide) rfl ?_
  refine G.widen (k1 := 0) (n1 := 0) (by omega) (by omega) ?_
  refine G.loc [1, 2, 0] rfl ?_
  refine gl_L_copies_4_0_2 (cb := 0) (sb := 0) E (by omega) (by omega) (fun s3 => ?_) N _ _
  refine G.widen (k1 := 0) (n1 := 0) (by omega) (by omega) ?_
  exact G.vret E dL_copies_20 rfl rfl
noncomputable def fl_L_copies_5_1_2 {ρ : Type} (N : Nat) (K : Wd → Option (ρ)) : Nat → Int32 → Wd → Option (ρ)
  | 0, _, _ => none
  | n + 1, x2, ν0 =>
    if 20 ≤ x2 then (
      K ν0)
    else (
      rI ν0 5 20 x2 fun v1 =>
      aI ν0 1 20 x2 v1 fun s2 =>
      fl_L_copies_5_1_2 N K n (x2 + 1) s2)
set_option maxHeartbeats 4000000 in
set_option maxRecDepth 100000 in
theorem gl_L_copies_5_1_2 {ρ : Type} {Q : ρ → State → Prop} {N : Nat} {cb sb : Nat} {K : Wd → Option (ρ)} (E : EV p s m args meth c cL_copies 3 RL wsL_copies none D cy (wsN cy h) (adN h)) (hcb : cb ≤ 0) (hsb : sb ≤ 0) (hK : ∀ (ν0' : Wd), G p l e (headSpec wsL_copies rm_L_copies).room s m args below meth c 3 cb sb D (wsN cy h) (adN h) Q 20 [] [] ν0' (K ν0')) :
  ∀ (n : Nat), ∀ (x2 : Int32) (ν0 : Wd), G p l e (headSpec wsL_copies rm_L_copies).room s m args below meth c 3 cb sb D (wsN cy h) (adN h) Q 2 [(0, .ref (h 5)), (1, .ref (h 1)), (2, .int x2)] [] ν0 (fl_L_copies_5_1_2 N K n x2 ν0) := by
  intro n
  induction n with
  | zero => intros; exact G.no
  | succ n ih =>
    intro x2 ν0
    rw [fl_L_copies_5_1_2]
    refine G.iload_n E dL_copies_2 2 rfl rfl ?_
    refine G.aload_n E dL_copies_3 0 rfl rfl ?_
    refine G.alen (q0 := 5) (t0 := 0) (v := 20) E dL_copies_4 (wsN_at5 _ _ _) rfl rfl ?_
    refine G.icmp_ge (tgt := 20) E dL_copies_5 (by decide) ?_ ?_
    · refine G.widen (k1 := cb) (n1 := sb) (by omega) (by omega) ?_
      refine G.loc [] rfl ?_
      exact hK ν0
    · refine G.aload_n E dL_copies_8 1 rfl rfl ?_
      refine G.iload_n E dL_copies_9 2 rfl rfl ?_
      refine G.aload_n E dL_copies_10 0 rfl rfl ?_
      refine G.iload_n E dL_copies_11 2 rfl rfl ?_
      refine G.ialdW (q0 := 5) (p0 := 5) (n := 20) ν0 E dL_copies_12 (wsN_at5 _ _ _) (fun v1 => ?_)
      refine G.iastW (q0 := 1) (p0 := 1) (n := 20) ν0 (fun x => x) E dL_copies_13 (wsN_at1 _ _ _) (fun j => (wsN_set1 _ _ _ _ j)) (fun s2 => ?_)
      refine G.iinc (v := x2 + 1) (lv' := [(2, .int (x2 + 1)), (0, .ref (h 5)), (1, .ref (h 1))]) E dL_copies_14 2 rfl rfl (by decide) rfl ?_
      refine G.goto (tgt := 2) E dL_copies_17 (by decide) ?_
      refine G.widen (k1 := cb) (n1 := sb) (by omega) (by omega) ?_
      refine G.loc [1, 2, 0] rfl ?_
      exact ih (x2 + 1) s2
noncomputable def f_L_copies_5_1 (N : Nat) (ν : Wd) : Option (Wd) :=
  fl_L_copies_5_1_2 N (fun s3 =>
    some s3) N 0 ν
set_option maxHeartbeats 4000000 in
set_option maxRecDepth 100000 in
theorem c_L_copies_5_1 {l : Launch} {D : va_G} {cy : Nat → ClassId} {h : Nat → Nat} {N : Nat} {ν : Wd}  {ν1 : Wd} (hW : WF (wsN cy h) (adN h)) (hr : f_L_copies_5_1 N ν = some ν1) : Con l D cy (wsN cy h) (adN h) yL_copies wsL_copies rm_L_copies 0 0 [.ref (h 5), .ref (h 1)] (none) ν ν1 := by
  refine Con.ofM (ρ := Wd) (lv0 := [(0, .ref (h 5)), (1, .ref (h 1))]) (σ := ν) (mc := 0) (ms := 0) (fun _ : Wd => none) (fun r => r) (by decide) rfl rfl (Nat.le_of_ble_eq_true rfl) rfl hW hr (fun p e s m args below meth c E => ?_)
  unfold f_L_copies_5_1
  refine G.iconst (v := 0) E dL_copies_0 (by decide) ?_
  refine G.istore_n (lv' := [(2, .int 0), (0, .ref (h 5)), (1, .ref (h 1))]) E dL_copies_1 rfl (by decide) rfl ?_
  refine G.widen (k1 := 0) (n1 := 0) (by omega) (by omega) ?_
  refine G.loc [1, 2, 0] rfl ?_
  refine gl_L_copies_5_1_2 (cb := 0) (sb := 0) E (by omega) (by omega) (fun s3 => ?_) N _ _
  refine G.widen (k1 := 0) (n1 := 0) (by omega) (by omega) ?_
  exact G.vret E dL_copies_20 rfl rfl
noncomputable def fl_L_copies_6_2_2 {ρ : Type} (N : Nat) (K : Wd → Option (ρ)) : Nat → Int32 → Wd → Option (ρ)
  | 0, _, _ => none
  | n + 1, x2, ν0 =>
    if 20 ≤ x2 then (
      K ν0)
    else (
      rI ν0 6 20 x2 fun v1 =>
      aI ν0 2 20 x2 v1 fun s2 =>
      fl_L_copies_6_2_2 N K n (x2 + 1) s2)
set_option maxHeartbeats 4000000 in
set_option maxRecDepth 100000 in
theorem gl_L_copies_6_2_2 {ρ : Type} {Q : ρ → State → Prop} {N : Nat} {cb sb : Nat} {K : Wd → Option (ρ)} (E : EV p s m args meth c cL_copies 3 RL wsL_copies none D cy (wsN cy h) (adN h)) (hcb : cb ≤ 0) (hsb : sb ≤ 0) (hK : ∀ (ν0' : Wd), G p l e (headSpec wsL_copies rm_L_copies).room s m args below meth c 3 cb sb D (wsN cy h) (adN h) Q 20 [] [] ν0' (K ν0')) :
  ∀ (n : Nat), ∀ (x2 : Int32) (ν0 : Wd), G p l e (headSpec wsL_copies rm_L_copies).room s m args below meth c 3 cb sb D (wsN cy h) (adN h) Q 2 [(0, .ref (h 6)), (1, .ref (h 2)), (2, .int x2)] [] ν0 (fl_L_copies_6_2_2 N K n x2 ν0) := by
  intro n
  induction n with
  | zero => intros; exact G.no
  | succ n ih =>
    intro x2 ν0
    rw [fl_L_copies_6_2_2]
    refine G.iload_n E dL_copies_2 2 rfl rfl ?_
    refine G.aload_n E dL_copies_3 0 rfl rfl ?_
    refine G.alen (q0 := 6) (t0 := 0) (v := 20) E dL_copies_4 (wsN_at6 _ _ _) rfl rfl ?_
    refine G.icmp_ge (tgt := 20) E dL_copies_5 (by decide) ?_ ?_
    · refine G.widen (k1 := cb) (n1 := sb) (by omega) (by omega) ?_
      refine G.loc [] rfl ?_
      exact hK ν0
    · refine G.aload_n E dL_copies_8 1 rfl rfl ?_
      refine G.iload_n E dL_copies_9 2 rfl rfl ?_
      refine G.aload_n E dL_copies_10 0 rfl rfl ?_
      refine G.iload_n E dL_copies_11 2 rfl rfl ?_
      refine G.ialdW (q0 := 6) (p0 := 6) (n := 20) ν0 E dL_copies_12 (wsN_at6 _ _ _) (fun v1 => ?_)
      refine G.iastW (q0 := 2) (p0 := 2) (n := 20) ν0 (fun x => x) E dL_copies_13 (wsN_at2 _ _ _) (fun j => (wsN_set2 _ _ _ _ j)) (fun s2 => ?_)
      refine G.iinc (v := x2 + 1) (lv' := [(2, .int (x2 + 1)), (0, .ref (h 6)), (1, .ref (h 2))]) E dL_copies_14 2 rfl rfl (by decide) rfl ?_
      refine G.goto (tgt := 2) E dL_copies_17 (by decide) ?_
      refine G.widen (k1 := cb) (n1 := sb) (by omega) (by omega) ?_
      refine G.loc [1, 2, 0] rfl ?_
      exact ih (x2 + 1) s2
noncomputable def f_L_copies_6_2 (N : Nat) (ν : Wd) : Option (Wd) :=
  fl_L_copies_6_2_2 N (fun s3 =>
    some s3) N 0 ν
set_option maxHeartbeats 4000000 in
set_option maxRecDepth 100000 in
theorem c_L_copies_6_2 {l : Launch} {D : va_G} {cy : Nat → ClassId} {h : Nat → Nat} {N : Nat} {ν : Wd}  {ν1 : Wd} (hW : WF (wsN cy h) (adN h)) (hr : f_L_copies_6_2 N ν = some ν1) : Con l D cy (wsN cy h) (adN h) yL_copies wsL_copies rm_L_copies 0 0 [.ref (h 6), .ref (h 2)] (none) ν ν1 := by
  refine Con.ofM (ρ := Wd) (lv0 := [(0, .ref (h 6)), (1, .ref (h 2))]) (σ := ν) (mc := 0) (ms := 0) (fun _ : Wd => none) (fun r => r) (by decide) rfl rfl (Nat.le_of_ble_eq_true rfl) rfl hW hr (fun p e s m args below meth c E => ?_)
  unfold f_L_copies_6_2
  refine G.iconst (v := 0) E dL_copies_0 (by decide) ?_
  refine G.istore_n (lv' := [(2, .int 0), (0, .ref (h 6)), (1, .ref (h 2))]) E dL_copies_1 rfl (by decide) rfl ?_
  refine G.widen (k1 := 0) (n1 := 0) (by omega) (by omega) ?_
  refine G.loc [1, 2, 0] rfl ?_
  refine gl_L_copies_6_2_2 (cb := 0) (sb := 0) E (by omega) (by omega) (fun s3 => ?_) N _ _
  refine G.widen (k1 := 0) (n1 := 0) (by omega) (by omega) ?_
  exact G.vret E dL_copies_20 rfl rfl
noncomputable def fl_L_copies_7_3_2 {ρ : Type} (N : Nat) (K : Wd → Option (ρ)) : Nat → Int32 → Wd → Option (ρ)
  | 0, _, _ => none
  | n + 1, x2, ν0 =>
    if 20 ≤ x2 then (
      K ν0)
    else (
      rI ν0 7 20 x2 fun v1 =>
      aI ν0 3 20 x2 v1 fun s2 =>
      fl_L_copies_7_3_2 N K n (x2 + 1) s2)
set_option maxHeartbeats 4000000 in
set_option maxRecDepth 100000 in
theorem gl_L_copies_7_3_2 {ρ : Type} {Q : ρ → State → Prop} {N : Nat} {cb sb : Nat} {K : Wd → Option (ρ)} (E : EV p s m args meth c cL_copies 3 RL wsL_copies none D cy (wsN cy h) (adN h)) (hcb : cb ≤ 0) (hsb : sb ≤ 0) (hK : ∀ (ν0' : Wd), G p l e (headSpec wsL_copies rm_L_copies).room s m args below meth c 3 cb sb D (wsN cy h) (adN h) Q 20 [] [] ν0' (K ν0')) :
  ∀ (n : Nat), ∀ (x2 : Int32) (ν0 : Wd), G p l e (headSpec wsL_copies rm_L_copies).room s m args below meth c 3 cb sb D (wsN cy h) (adN h) Q 2 [(0, .ref (h 7)), (1, .ref (h 3)), (2, .int x2)] [] ν0 (fl_L_copies_7_3_2 N K n x2 ν0) := by
  intro n
  induction n with
  | zero => intros; exact G.no
  | succ n ih =>
    intro x2 ν0
    rw [fl_L_copies_7_3_2]
    refine G.iload_n E dL_copies_2 2 rfl rfl ?_
    refine G.aload_n E dL_copies_3 0 rfl rfl ?_
    refine G.alen (q0 := 7) (t0 := 0) (v := 20) E dL_copies_4 (wsN_at7 _ _ _) rfl rfl ?_
    refine G.icmp_ge (tgt := 20) E dL_copies_5 (by decide) ?_ ?_
    · refine G.widen (k1 := cb) (n1 := sb) (by omega) (by omega) ?_
      refine G.loc [] rfl ?_
      exact hK ν0
    · refine G.aload_n E dL_copies_8 1 rfl rfl ?_
      refine G.iload_n E dL_copies_9 2 rfl rfl ?_
      refine G.aload_n E dL_copies_10 0 rfl rfl ?_
      refine G.iload_n E dL_copies_11 2 rfl rfl ?_
      refine G.ialdW (q0 := 7) (p0 := 7) (n := 20) ν0 E dL_copies_12 (wsN_at7 _ _ _) (fun v1 => ?_)
      refine G.iastW (q0 := 3) (p0 := 3) (n := 20) ν0 (fun x => x) E dL_copies_13 (wsN_at3 _ _ _) (fun j => (wsN_set3 _ _ _ _ j)) (fun s2 => ?_)
      refine G.iinc (v := x2 + 1) (lv' := [(2, .int (x2 + 1)), (0, .ref (h 7)), (1, .ref (h 3))]) E dL_copies_14 2 rfl rfl (by decide) rfl ?_
      refine G.goto (tgt := 2) E dL_copies_17 (by decide) ?_
      refine G.widen (k1 := cb) (n1 := sb) (by omega) (by omega) ?_
      refine G.loc [1, 2, 0] rfl ?_
      exact ih (x2 + 1) s2
noncomputable def f_L_copies_7_3 (N : Nat) (ν : Wd) : Option (Wd) :=
  fl_L_copies_7_3_2 N (fun s3 =>
    some s3) N 0 ν
set_option maxHeartbeats 4000000 in
set_option maxRecDepth 100000 in
theorem c_L_copies_7_3 {l : Launch} {D : va_G} {cy : Nat → ClassId} {h : Nat → Nat} {N : Nat} {ν : Wd}  {ν1 : Wd} (hW : WF (wsN cy h) (adN h)) (hr : f_L_copies_7_3 N ν = some ν1) : Con l D cy (wsN cy h) (adN h) yL_copies wsL_copies rm_L_copies 0 0 [.ref (h 7), .ref (h 3)] (none) ν ν1 := by
  refine Con.ofM (ρ := Wd) (lv0 := [(0, .ref (h 7)), (1, .ref (h 3))]) (σ := ν) (mc := 0) (ms := 0) (fun _ : Wd => none) (fun r => r) (by decide) rfl rfl (Nat.le_of_ble_eq_true rfl) rfl hW hr (fun p e s m args below meth c E => ?_)
  unfold f_L_copies_7_3
  refine G.iconst (v := 0) E dL_copies_0 (by decide) ?_
  refine G.istore_n (lv' := [(2, .int 0), (0, .ref (h 7)), (1, .ref (h 3))]) E dL_copies_1 rfl (by decide) rfl ?_
  refine G.widen (k1 := 0) (n1 := 0) (by omega) (by omega) ?_
  refine G.loc [1, 2, 0] rfl ?_
  refine gl_L_copies_7_3_2 (cb := 0) (sb := 0) E (by omega) (by omega) (fun s3 => ?_) N _ _
  refine G.widen (k1 := 0) (n1 := 0) (by omega) (by omega) ?_
  exact G.vret E dL_copies_20 rfl rfl
noncomputable def fl_L_copies_0_4_2 {ρ : Type} (N : Nat) (K : Wd → Option (ρ)) : Nat → Int32 → Wd → Option (ρ)
  | 0, _, _ => none
  | n + 1, x2, ν0 =>
    if 6 ≤ x2 then (
      K ν0)
    else (
      rI ν0 0 6 x2 fun v1 =>
      aI ν0 4 6 x2 v1 fun s2 =>
      fl_L_copies_0_4_2 N K n (x2 + 1) s2)
set_option maxHeartbeats 4000000 in
set_option maxRecDepth 100000 in
theorem gl_L_copies_0_4_2 {ρ : Type} {Q : ρ → State → Prop} {N : Nat} {cb sb : Nat} {K : Wd → Option (ρ)} (E : EV p s m args meth c cL_copies 3 RL wsL_copies none D cy (wsN cy h) (adN h)) (hcb : cb ≤ 0) (hsb : sb ≤ 0) (hK : ∀ (ν0' : Wd), G p l e (headSpec wsL_copies rm_L_copies).room s m args below meth c 3 cb sb D (wsN cy h) (adN h) Q 20 [] [] ν0' (K ν0')) :
  ∀ (n : Nat), ∀ (x2 : Int32) (ν0 : Wd), G p l e (headSpec wsL_copies rm_L_copies).room s m args below meth c 3 cb sb D (wsN cy h) (adN h) Q 2 [(0, .ref (h 0)), (1, .ref (h 4)), (2, .int x2)] [] ν0 (fl_L_copies_0_4_2 N K n x2 ν0) := by
  intro n
  induction n with
  | zero => intros; exact G.no
  | succ n ih =>
    intro x2 ν0
    rw [fl_L_copies_0_4_2]
    refine G.iload_n E dL_copies_2 2 rfl rfl ?_
    refine G.aload_n E dL_copies_3 0 rfl rfl ?_
    refine G.alen (q0 := 0) (t0 := 0) (v := 6) E dL_copies_4 (wsN_at0 _ _ _) rfl rfl ?_
    refine G.icmp_ge (tgt := 20) E dL_copies_5 (by decide) ?_ ?_
    · refine G.widen (k1 := cb) (n1 := sb) (by omega) (by omega) ?_
      refine G.loc [] rfl ?_
      exact hK ν0
    · refine G.aload_n E dL_copies_8 1 rfl rfl ?_
      refine G.iload_n E dL_copies_9 2 rfl rfl ?_
      refine G.aload_n E dL_copies_10 0 rfl rfl ?_
      refine G.iload_n E dL_copies_11 2 rfl rfl ?_
      refine G.ialdW (q0 := 0) (p0 := 0) (n := 6) ν0 E dL_copies_12 (wsN_at0 _ _ _) (fun v1 => ?_)
      refine G.iastW (q0 := 4) (p0 := 4) (n := 6) ν0 (fun x => x) E dL_copies_13 (wsN_at4 _ _ _) (fun j => (wsN_set4 _ _ _ _ j)) (fun s2 => ?_)
      refine G.iinc (v := x2 + 1) (lv' := [(2, .int (x2 + 1)), (0, .ref (h 0)), (1, .ref (h 4))]) E dL_copies_14 2 rfl rfl (by decide) rfl ?_
      refine G.goto (tgt := 2) E dL_copies_17 (by decide) ?_
      refine G.widen (k1 := cb) (n1 := sb) (by omega) (by omega) ?_
      refine G.loc [1, 2, 0] rfl ?_
      exact ih (x2 + 1) s2
noncomputable def f_L_copies_0_4 (N : Nat) (ν : Wd) : Option (Wd) :=
  fl_L_copies_0_4_2 N (fun s3 =>
    some s3) N 0 ν
set_option maxHeartbeats 4000000 in
set_option maxRecDepth 100000 in
theorem c_L_copies_0_4 {l : Launch} {D : va_G} {cy : Nat → ClassId} {h : Nat → Nat} {N : Nat} {ν : Wd}  {ν1 : Wd} (hW : WF (wsN cy h) (adN h)) (hr : f_L_copies_0_4 N ν = some ν1) : Con l D cy (wsN cy h) (adN h) yL_copies wsL_copies rm_L_copies 0 0 [.ref (h 0), .ref (h 4)] (none) ν ν1 := by
  refine Con.ofM (ρ := Wd) (lv0 := [(0, .ref (h 0)), (1, .ref (h 4))]) (σ := ν) (mc := 0) (ms := 0) (fun _ : Wd => none) (fun r => r) (by decide) rfl rfl (Nat.le_of_ble_eq_true rfl) rfl hW hr (fun p e s m args below meth c E => ?_)
  unfold f_L_copies_0_4
  refine G.iconst (v := 0) E dL_copies_0 (by decide) ?_
  refine G.istore_n (lv' := [(2, .int 0), (0, .ref (h 0)), (1, .ref (h 4))]) E dL_copies_1 rfl (by decide) rfl ?_
  refine G.widen (k1 := 0) (n1 := 0) (by omega) (by omega) ?_
  refine G.loc [1, 2, 0] rfl ?_
  refine gl_L_copies_0_4_2 (cb := 0) (sb := 0) E (by omega) (by omega) (fun s3 => ?_) N _ _
  refine G.widen (k1 := 0) (n1 := 0) (by omega) (by omega) ?_
  exact G.vret E dL_copies_20 rfl rfl
noncomputable def fl_L_copies_1_5_2 {ρ : Type} (N : Nat) (K : Wd → Option (ρ)) : Nat → Int32 → Wd → Option (ρ)
  | 0, _, _ => none
  | n + 1, x2, ν0 =>
    if 20 ≤ x2 then (
      K ν0)
    else (
      rI ν0 1 20 x2 fun v1 =>
      aI ν0 5 20 x2 v1 fun s2 =>
      fl_L_copies_1_5_2 N K n (x2 + 1) s2)
set_option maxHeartbeats 4000000 in
set_option maxRecDepth 100000 in
theorem gl_L_copies_1_5_2 {ρ : Type} {Q : ρ → State → Prop} {N : Nat} {cb sb : Nat} {K : Wd → Option (ρ)} (E : EV p s m args meth c cL_copies 3 RL wsL_copies none D cy (wsN cy h) (adN h)) (hcb : cb ≤ 0) (hsb : sb ≤ 0) (hK : ∀ (ν0' : Wd), G p l e (headSpec wsL_copies rm_L_copies).room s m args below meth c 3 cb sb D (wsN cy h) (adN h) Q 20 [] [] ν0' (K ν0')) :
  ∀ (n : Nat), ∀ (x2 : Int32) (ν0 : Wd), G p l e (headSpec wsL_copies rm_L_copies).room s m args below meth c 3 cb sb D (wsN cy h) (adN h) Q 2 [(0, .ref (h 1)), (1, .ref (h 5)), (2, .int x2)] [] ν0 (fl_L_copies_1_5_2 N K n x2 ν0) := by
  intro n
  induction n with
  | zero => intros; exact G.no
  | succ n ih =>
    intro x2 ν0
    rw [fl_L_copies_1_5_2]
    refine G.iload_n E dL_copies_2 2 rfl rfl ?_
    refine G.aload_n E dL_copies_3 0 rfl rfl ?_
    refine G.alen (q0 := 1) (t0 := 0) (v := 20) E dL_copies_4 (wsN_at1 _ _ _) rfl rfl ?_
    refine G.icmp_ge (tgt := 20) E dL_copies_5 (by decide) ?_ ?_
    · refine G.widen (k1 := cb) (n1 := sb) (by omega) (by omega) ?_
      refine G.loc [] rfl ?_
      exact hK ν0
    · refine G.aload_n E dL_copies_8 1 rfl rfl ?_
      refine G.iload_n E dL_copies_9 2 rfl rfl ?_
      refine G.aload_n E dL_copies_10 0 rfl rfl ?_
      refine G.iload_n E dL_copies_11 2 rfl rfl ?_
      refine G.ialdW (q0 := 1) (p0 := 1) (n := 20) ν0 E dL_copies_12 (wsN_at1 _ _ _) (fun v1 => ?_)
      refine G.iastW (q0 := 5) (p0 := 5) (n := 20) ν0 (fun x => x) E dL_copies_13 (wsN_at5 _ _ _) (fun j => (wsN_set5 _ _ _ _ j)) (fun s2 => ?_)
      refine G.iinc (v := x2 + 1) (lv' := [(2, .int (x2 + 1)), (0, .ref (h 1)), (1, .ref (h 5))]) E dL_copies_14 2 rfl rfl (by decide) rfl ?_
      refine G.goto (tgt := 2) E dL_copies_17 (by decide) ?_
      refine G.widen (k1 := cb) (n1 := sb) (by omega) (by omega) ?_
      refine G.loc [1, 2, 0] rfl ?_
      exact ih (x2 + 1) s2
noncomputable def f_L_copies_1_5 (N : Nat) (ν : Wd) : Option (Wd) :=
  fl_L_copies_1_5_2 N (fun s3 =>
    some s3) N 0 ν
set_option maxHeartbeats 4000000 in
set_option maxRecDepth 100000 in
theorem c_L_copies_1_5 {l : Launch} {D : va_G} {cy : Nat → ClassId} {h : Nat → Nat} {N : Nat} {ν : Wd}  {ν1 : Wd} (hW : WF (wsN cy h) (adN h)) (hr : f_L_copies_1_5 N ν = some ν1) : Con l D cy (wsN cy h) (adN h) yL_copies wsL_copies rm_L_copies 0 0 [.ref (h 1), .ref (h 5)] (none) ν ν1 := by
  refine Con.ofM (ρ := Wd) (lv0 := [(0, .ref (h 1)), (1, .ref (h 5))]) (σ := ν) (mc := 0) (ms := 0) (fun _ : Wd => none) (fun r => r) (by decide) rfl rfl (Nat.le_of_ble_eq_true rfl) rfl hW hr (fun p e s m args below meth c E => ?_)
  unfold f_L_copies_1_5
  refine G.iconst (v := 0) E dL_copies_0 (by decide) ?_
  refine G.istore_n (lv' := [(2, .int 0), (0, .ref (h 1)), (1, .ref (h 5))]) E dL_copies_1 rfl (by decide) rfl ?_
  refine G.widen (k1 := 0) (n1 := 0) (by omega) (by omega) ?_
  refine G.loc [1, 2, 0] rfl ?_
  refine gl_L_copies_1_5_2 (cb := 0) (sb := 0) E (by omega) (by omega) (fun s3 => ?_) N _ _
  refine G.widen (k1 := 0) (n1 := 0) (by omega) (by omega) ?_
  exact G.vret E dL_copies_20 rfl rfl
noncomputable def fl_L_copies_2_6_2 {ρ : Type} (N : Nat) (K : Wd → Option (ρ)) : Nat → Int32 → Wd → Option (ρ)
  | 0, _, _ => none
  | n + 1, x2, ν0 =>
    if 20 ≤ x2 then (
      K ν0)
    else (
      rI ν0 2 20 x2 fun v1 =>
      aI ν0 6 20 x2 v1 fun s2 =>
      fl_L_copies_2_6_2 N K n (x2 + 1) s2)
set_option maxHeartbeats 4000000 in
set_option maxRecDepth 100000 in
theorem gl_L_copies_2_6_2 {ρ : Type} {Q : ρ → State → Prop} {N : Nat} {cb sb : Nat} {K : Wd → Option (ρ)} (E : EV p s m args meth c cL_copies 3 RL wsL_copies none D cy (wsN cy h) (adN h)) (hcb : cb ≤ 0) (hsb : sb ≤ 0) (hK : ∀ (ν0' : Wd), G p l e (headSpec wsL_copies rm_L_copies).room s m args below meth c 3 cb sb D (wsN cy h) (adN h) Q 20 [] [] ν0' (K ν0')) :
  ∀ (n : Nat), ∀ (x2 : Int32) (ν0 : Wd), G p l e (headSpec wsL_copies rm_L_copies).room s m args below meth c 3 cb sb D (wsN cy h) (adN h) Q 2 [(0, .ref (h 2)), (1, .ref (h 6)), (2, .int x2)] [] ν0 (fl_L_copies_2_6_2 N K n x2 ν0) := by
  intro n
  induction n with
  | zero => intros; exact G.no
  | succ n ih =>
    intro x2 ν0
    rw [fl_L_copies_2_6_2]
    refine G.iload_n E dL_copies_2 2 rfl rfl ?_
    refine G.aload_n E dL_copies_3 0 rfl rfl ?_
    refine G.alen (q0 := 2) (t0 := 0) (v := 20) E dL_copies_4 (wsN_at2 _ _ _) rfl rfl ?_
    refine G.icmp_ge (tgt := 20) E dL_copies_5 (by decide) ?_ ?_
    · refine G.widen (k1 := cb) (n1 := sb) (by omega) (by omega) ?_
      refine G.loc [] rfl ?_
      exact hK ν0
    · refine G.aload_n E dL_copies_8 1 rfl rfl ?_
      refine G.iload_n E dL_copies_9 2 rfl rfl ?_
      refine G.aload_n E dL_copies_10 0 rfl rfl ?_
      refine G.iload_n E dL_copies_11 2 rfl rfl ?_
      refine G.ialdW (q0 := 2) (p0 := 2) (n := 20) ν0 E dL_copies_12 (wsN_at2 _ _ _) (fun v1 => ?_)
      refine G.iastW (q0 := 6) (p0 := 6) (n := 20) ν0 (fun x => x) E dL_copies_13 (wsN_at6 _ _ _) (fun j => (wsN_set6 _ _ _ _ j)) (fun s2 => ?_)
      refine G.iinc (v := x2 + 1) (lv' := [(2, .int (x2 + 1)), (0, .ref (h 2)), (1, .ref (h 6))]) E dL_copies_14 2 rfl rfl (by decide) rfl ?_
      refine G.goto (tgt := 2) E dL_copies_17 (by decide) ?_
      refine G.widen (k1 := cb) (n1 := sb) (by omega) (by omega) ?_
      refine G.loc [1, 2, 0] rfl ?_
      exact ih (x2 + 1) s2
noncomputable def f_L_copies_2_6 (N : Nat) (ν : Wd) : Option (Wd) :=
  fl_L_copies_2_6_2 N (fun s3 =>
    some s3) N 0 ν
set_option maxHeartbeats 4000000 in
set_option maxRecDepth 100000 in
theorem c_L_copies_2_6 {l : Launch} {D : va_G} {cy : Nat → ClassId} {h : Nat → Nat} {N : Nat} {ν : Wd}  {ν1 : Wd} (hW : WF (wsN cy h) (adN h)) (hr : f_L_copies_2_6 N ν = some ν1) : Con l D cy (wsN cy h) (adN h) yL_copies wsL_copies rm_L_copies 0 0 [.ref (h 2), .ref (h 6)] (none) ν ν1 := by
  refine Con.ofM (ρ := Wd) (lv0 := [(0, .ref (h 2)), (1, .ref (h 6))]) (σ := ν) (mc := 0) (ms := 0) (fun _ : Wd => none) (fun r => r) (by decide) rfl rfl (Nat.le_of_ble_eq_true rfl) rfl hW hr (fun p e s m args below meth c E => ?_)
  unfold f_L_copies_2_6
  refine G.iconst (v := 0) E dL_copies_0 (by decide) ?_
  refine G.istore_n (lv' := [(2, .int 0), (0, .ref (h 2)), (1, .ref (h 6))]) E dL_copies_1 rfl (by decide) rfl ?_
  refine G.widen (k1 := 0) (n1 := 0) (by omega) (by omega) ?_
  refine G.loc [1, 2, 0] rfl ?_
  refine gl_L_copies_2_6_2 (cb := 0) (sb := 0) E (by omega) (by omega) (fun s3 => ?_) N _ _
  refine G.widen (k1 := 0) (n1 := 0) (by omega) (by omega) ?_
  exact G.vret E dL_copies_20 rfl rfl
noncomputable def fl_L_copies_3_7_2 {ρ : Type} (N : Nat) (K : Wd → Option (ρ)) : Nat → Int32 → Wd → Option (ρ)
  | 0, _, _ => none
  | n + 1, x2, ν0 =>
    if 20 ≤ x2 then (
      K ν0)
    else (
      rI ν0 3 20 x2 fun v1 =>
      aI ν0 7 20 x2 v1 fun s2 =>
      fl_L_copies_3_7_2 N K n (x2 + 1) s2)
set_option maxHeartbeats 4000000 in
set_option maxRecDepth 100000 in
theorem gl_L_copies_3_7_2 {ρ : Type} {Q : ρ → State → Prop} {N : Nat} {cb sb : Nat} {K : Wd → Option (ρ)} (E : EV p s m args meth c cL_copies 3 RL wsL_copies none D cy (wsN cy h) (adN h)) (hcb : cb ≤ 0) (hsb : sb ≤ 0) (hK : ∀ (ν0' : Wd), G p l e (headSpec wsL_copies rm_L_copies).room s m args below meth c 3 cb sb D (wsN cy h) (adN h) Q 20 [] [] ν0' (K ν0')) :
  ∀ (n : Nat), ∀ (x2 : Int32) (ν0 : Wd), G p l e (headSpec wsL_copies rm_L_copies).room s m args below meth c 3 cb sb D (wsN cy h) (adN h) Q 2 [(0, .ref (h 3)), (1, .ref (h 7)), (2, .int x2)] [] ν0 (fl_L_copies_3_7_2 N K n x2 ν0) := by
  intro n
  induction n with
  | zero => intros; exact G.no
  | succ n ih =>
    intro x2 ν0
    rw [fl_L_copies_3_7_2]
    refine G.iload_n E dL_copies_2 2 rfl rfl ?_
    refine G.aload_n E dL_copies_3 0 rfl rfl ?_
    refine G.alen (q0 := 3) (t0 := 0) (v := 20) E dL_copies_4 (wsN_at3 _ _ _) rfl rfl ?_
    refine G.icmp_ge (tgt := 20) E dL_copies_5 (by decide) ?_ ?_
    · refine G.widen (k1 := cb) (n1 := sb) (by omega) (by omega) ?_
      refine G.loc [] rfl ?_
      exact hK ν0
    · refine G.aload_n E dL_copies_8 1 rfl rfl ?_
      refine G.iload_n E dL_copies_9 2 rfl rfl ?_
      refine G.aload_n E dL_copies_10 0 rfl rfl ?_
      refine G.iload_n E dL_copies_11 2 rfl rfl ?_
      refine G.ialdW (q0 := 3) (p0 := 3) (n := 20) ν0 E dL_copies_12 (wsN_at3 _ _ _) (fun v1 => ?_)
      refine G.iastW (q0 := 7) (p0 := 7) (n := 20) ν0 (fun x => x) E dL_copies_13 (wsN_at7 _ _ _) (fun j => (wsN_set7 _ _ _ _ j)) (fun s2 => ?_)
      refine G.iinc (v := x2 + 1) (lv' := [(2, .int (x2 + 1)), (0, .ref (h 3)), (1, .ref (h 7))]) E dL_copies_14 2 rfl rfl (by decide) rfl ?_
      refine G.goto (tgt := 2) E dL_copies_17 (by decide) ?_
      refine G.widen (k1 := cb) (n1 := sb) (by omega) (by omega) ?_
      refine G.loc [1, 2, 0] rfl ?_
      exact ih (x2 + 1) s2
noncomputable def f_L_copies_3_7 (N : Nat) (ν : Wd) : Option (Wd) :=
  fl_L_copies_3_7_2 N (fun s3 =>
    some s3) N 0 ν
set_option maxHeartbeats 4000000 in
set_option maxRecDepth 100000 in
theorem c_L_copies_3_7 {l : Launch} {D : va_G} {cy : Nat → ClassId} {h : Nat → Nat} {N : Nat} {ν : Wd}  {ν1 : Wd} (hW : WF (wsN cy h) (adN h)) (hr : f_L_copies_3_7 N ν = some ν1) : Con l D cy (wsN cy h) (adN h) yL_copies wsL_copies rm_L_copies 0 0 [.ref (h 3), .ref (h 7)] (none) ν ν1 := by
  refine Con.ofM (ρ := Wd) (lv0 := [(0, .ref (h 3)), (1, .ref (h 7))]) (σ := ν) (mc := 0) (ms := 0) (fun _ : Wd => none) (fun r => r) (by decide) rfl rfl (Nat.le_of_ble_eq_true rfl) rfl hW hr (fun p e s m args below meth c E => ?_)
  unfold f_L_copies_3_7
  refine G.iconst (v := 0) E dL_copies_0 (by decide) ?_
  refine G.istore_n (lv' := [(2, .int 0), (0, .ref (h 3)), (1, .ref (h 7))]) E dL_copies_1 rfl (by decide) rfl ?_
  refine G.widen (k1 := 0) (n1 := 0) (by omega) (by omega) ?_
  refine G.loc [1, 2, 0] rfl ?_
  refine gl_L_copies_3_7_2 (cb := 0) (sb := 0) E (by omega) (by omega) (fun s3 => ?_) N _ _
  refine G.widen (k1 := 0) (n1 := 0) (by omega) (by omega) ?_
  exact G.vret E dL_copies_20 rfl rfl
abbrev rm_L_isThere : Room := { frames := 0, cells := 0, slots := 0, locals := 0 }
noncomputable def f_L_isThere (N : Nat) (ν : Wd) (a0 : Int32) (a1 : Int32) : Option (Int32) :=
  jn (fun (v1 : Int32) => ((
    if ((v1 >>> (a1 &&& 31)) &&& 1) = 1 then (
      some 1)
    else (
      some 0)) : Option (Int32))) fun j23 =>
  jn (fun (_u : Unit) => ((
    rI ν 0 6 4 fun v2 =>
    j23 v2) : Option (Int32))) fun j14 =>
  if a0 = 0 then (
    j14 ())
  else (
    if a0 = 1 then (
      j14 ())
    else (
      if a0 = 5 then (
        j14 ())
      else (
        rI ν 0 6 1 fun v3 =>
        j23 v3)))
set_option maxHeartbeats 4000000 in
set_option maxRecDepth 100000 in
theorem c_L_isThere {l : Launch} {D : va_G} {cy : Nat → ClassId} {h : Nat → Nat} {N : Nat} {ν : Wd} {a0 : Int32} {a1 : Int32} {r : Int32} (hW : WF (wsN cy h) (adN h)) (hr : f_L_isThere N ν a0 a1 = some r) : Con l D cy (wsN cy h) (adN h) yL_isThere wsL_isThere rm_L_isThere 0 0 [.int a0, .int a1, .ref (h 0)] (some (.int r)) ν ν := by
  refine Con.ofM (ρ := Int32) (lv0 := [(0, .int a0), (1, .int a1), (2, .ref (h 0))]) (σ := ν) (mc := 0) (ms := 0) (fun r : Int32 => some (.int r)) (fun _ => ν) (by decide) rfl rfl (Nat.le_of_ble_eq_true rfl) rfl hW hr (fun p e s m args below meth c E => ?_)
  unfold f_L_isThere
  refine G.iload_n E dL_isThere_0 0 rfl rfl ?_
  refine G.jn (P := fun j => ∀ (v1 : Int32), G p l e (headSpec wsL_isThere rm_L_isThere).room s m args below meth c 3 0 0 D (wsN cy h) (adN h) (QM D (wsN cy h) (adN h) below args s 0 0 (fun r : Int32 => some (.int r)) (fun _ => ν)) 23 [(1, .int a1)] [.int v1] ν (j v1)) ?_ (fun j23 hj23 => ?_)
  · intro v1
    refine G.iload_n E dL_isThere_23 0 rfl rfl ?_
    refine G.ishr E dL_isThere_24 ?_
    refine G.iconst (v := 1) E dL_isThere_25 (by decide) ?_
    refine G.iand E dL_isThere_26 ?_
    refine G.iconst (v := 1) E dL_isThere_27 (by decide) ?_
    refine G.icmp_ne (tgt := 35) E dL_isThere_28 (by decide) ?_ ?_
    · refine G.iconst (v := 1) E dL_isThere_31 (by decide) ?_
      refine G.goto (tgt := 36) E dL_isThere_32 (by decide) ?_
      refine G.widen (k1 := 0) (n1 := 0) (by omega) (by omega) ?_
      exact G.zretc E dL_isThere_36 rfl rfl rfl
    · refine G.iconst (v := 0) E dL_isThere_35 (by decide) ?_
      refine G.widen (k1 := 0) (n1 := 0) (by omega) (by omega) ?_
      exact G.zretc E dL_isThere_36 rfl rfl rfl
  · refine G.jn (P := fun j => ∀ (_u : Unit), G p l e (headSpec wsL_isThere rm_L_isThere).room s m args below meth c 3 0 0 D (wsN cy h) (adN h) (QM D (wsN cy h) (adN h) below args s 0 0 (fun r : Int32 => some (.int r)) (fun _ => ν)) 14 [(1, .int a1), (2, .ref (h 0))] [] ν (j _u)) ?_ (fun j14 hj14 => ?_)
    · intro _u
      refine G.aload_n E dL_isThere_14 1 rfl rfl ?_
      refine G.iconst (v := 4) E dL_isThere_15 (by decide) ?_
      refine G.ialdW (q0 := 0) (p0 := 0) (n := 6) ν E dL_isThere_16 (wsN_at0 _ _ _) (fun v2 => ?_)
      refine G.goto (tgt := 23) E dL_isThere_17 (by decide) ?_
      refine G.widen (k1 := 0) (n1 := 0) (by omega) (by omega) ?_
      refine G.loc [0] rfl ?_
      exact hj23 v2
    · refine G.if_eq (tgt := 14) E dL_isThere_1 (by decide) ?_ ?_
      · refine G.widen (k1 := 0) (n1 := 0) (by omega) (by omega) ?_
        refine G.loc [1, 2] rfl ?_
        exact hj14 ()
      · refine G.iload_n E dL_isThere_4 0 rfl rfl ?_
        refine G.iconst (v := 1) E dL_isThere_5 (by decide) ?_
        refine G.icmp_eq (tgt := 14) E dL_isThere_6 (by decide) ?_ ?_
        · refine G.widen (k1 := 0) (n1 := 0) (by omega) (by omega) ?_
          refine G.loc [1, 2] rfl ?_
          exact hj14 ()
        · refine G.iload_n E dL_isThere_9 0 rfl rfl ?_
          refine G.iconst (v := 5) E dL_isThere_10 (by decide) ?_
          refine G.icmp_ne (tgt := 20) E dL_isThere_11 (by decide) ?_ ?_
          · refine G.widen (k1 := 0) (n1 := 0) (by omega) (by omega) ?_
            refine G.loc [1, 2] rfl ?_
            exact hj14 ()
          · refine G.aload_n E dL_isThere_20 2 rfl rfl ?_
            refine G.iconst (v := 1) E dL_isThere_21 (by decide) ?_
            refine G.ialdW (q0 := 0) (p0 := 0) (n := 6) ν E dL_isThere_22 (wsN_at0 _ _ _) (fun v3 => ?_)
            refine G.widen (k1 := 0) (n1 := 0) (by omega) (by omega) ?_
            refine G.loc [1] rfl ?_
            exact hj23 v3
end TR
