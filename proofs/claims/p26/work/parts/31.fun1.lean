section TR
variable {p : Program} {l : Launch} {e : Env} {s : State} {m : MethodId} {args : Array Value} {below : List Frame} {meth : Method} {c : Code} {D : va_G} {cy : Nat → ClassId} {h : Nat → Nat}

abbrev rm_L_low : Room := { frames := 0, cells := 0, slots := 0, locals := 0 }
noncomputable def f_L_low (N : Nat) (a0 : Int32) (a1 : Int32) : Option (Int32) :=
  mI ((Int32.toUInt32 a0 >>> (Int32.toUInt32 1 &&& Int32.toUInt32 31)).toInt32) a1 fun v1 =>
  some v1
set_option maxHeartbeats 4000000 in
set_option maxRecDepth 100000 in
theorem c_L_low {l : Launch} {D : va_G} {cy : Nat → ClassId} {h : Nat → Nat} {N : Nat} {ν : Wd} {a0 : Int32} {a1 : Int32} {r : Int32} (hW : WF (wsN cy h) (adN h)) (hr : f_L_low N a0 a1 = some r) : Con l D cy (wsN cy h) (adN h) yL_low wsL_low rm_L_low 0 0 [.int a0, .int a1] (some (.int r)) ν ν := by
  refine Con.ofM (ρ := Int32) (lv0 := [(0, .int a0), (1, .int a1)]) (σ := ν) (mc := 0) (ms := 0) (fun r : Int32 => some (.int r)) (fun _ => ν) (by decide) rfl rfl (Nat.le_of_ble_eq_true rfl) rfl hW hr (fun p e s m args below meth c E => ?_)
  unfold f_L_low
  refine G.iload_n E dL_low_0 0 rfl rfl ?_
  refine G.iconst (v := 1) E dL_low_1 (by decide) ?_
  refine G.iushr E dL_low_2 ?_
  refine G.iload_n E dL_low_3 1 rfl rfl ?_
  refine G.irem E dL_low_4 (fun v1 => ?_)
  refine G.widen (k1 := 0) (n1 := 0) (by omega) (by omega) ?_
  exact G.iret E dL_low_5 rfl rfl
abbrev rm_L_between : Room := { frames := 0, cells := 0, slots := 0, locals := 0 }
noncomputable def fl_L_between_6 {ρ : Type} (N : Nat) (ν : Wd) (x0 : Int32) (x1 : Int32) (K : Int64 → Option (ρ)) : Nat → Int64 → Int32 → Option (ρ)
  | 0, _, _ => none
  | n + 1, x6, x8 =>
    rI ν 0 6 3 fun v1 =>
    if v1 ≤ x8 then (
      K x6)
    else (
      rI ν 0 6 4 fun v2 =>
      jn (fun (v3 : Int64) => ((
        fl_L_between_6 N ν x0 x1 K n v3 (x8 + 1)) : Option (ρ))) fun j122 =>
      if ((v2 >>> (x8 &&& 31)) &&& 1) = 0 then (
        j122 x6)
      else (
        rI ν 1 20 x8 fun v4 =>
        rI ν 2 20 x8 fun v5 =>
        if v4 = v5 then (
          j122 x6)
        else (
          rI ν 1 20 x8 fun v6 =>
          jn (fun (v7 : Int32) => ((
            jn (fun (_u : Unit) => ((
              rI ν 3 20 x8 fun v8 =>
              lL (x6 + (Int32.toInt64 v8)) fun v9 =>
              j122 v9) : Option (ρ))) fun j111 =>
            if x0 = x1 then (
              rI ν 1 20 x8 fun v10 =>
              if v10 = x0 then (
                j111 ())
              else (
                rI ν 2 20 x8 fun v11 =>
                if v11 = x0 then (
                  j111 ())
                else (
                  j122 x6)))
            else (
              if v7 = 0 then (
                j122 x6)
              else (
                j111 ()))) : Option (ρ))) fun j79 =>
          jn (fun (_u : Unit) => ((
            j79 1) : Option (ρ))) fun j74 =>
          jn (fun (_u : Unit) => ((
            rI ν 1 20 x8 fun v12 =>
            jn (fun (_u : Unit) => ((
              j79 0) : Option (ρ))) fun j78 =>
            if v12 = x1 then (
              rI ν 2 20 x8 fun v13 =>
              if v13 = x0 then (
                j74 ())
              else (
                j78 ()))
            else (
              j78 ())) : Option (ρ))) fun j57 =>
          if v6 = x0 then (
            rI ν 2 20 x8 fun v14 =>
            if v14 = x1 then (
              j74 ())
            else (
              j57 ()))
          else (
            j57 ()))))
set_option maxHeartbeats 4000000 in
set_option maxRecDepth 100000 in
theorem gl_L_between_6 {ρ : Type} {Q : ρ → State → Prop} {N : Nat} {ν : Wd} {x0 : Int32} {x1 : Int32} {cb sb : Nat} {K : Int64 → Option (ρ)} (E : EV p s m args meth c cL_between 10 RL wsL_between (some .long) D cy (wsN cy h) (adN h)) (hcb : cb ≤ 0) (hsb : sb ≤ 0) (hK : ∀ (x6' : Int64), G p l e (headSpec wsL_between rm_L_between).room s m args below meth c 10 cb sb D (wsN cy h) (adN h) Q 128 [(6, .long (x6'))] [] ν (K x6')) :
  ∀ (n : Nat), ∀ (x6 : Int64) (x8 : Int32), G p l e (headSpec wsL_between rm_L_between).room s m args below meth c 10 cb sb D (wsN cy h) (adN h) Q 6 [(0, .int x0), (1, .int x1), (2, .ref (h 0)), (3, .ref (h 1)), (4, .ref (h 2)), (5, .ref (h 3)), (6, .long x6), (8, .int x8)] [] ν (fl_L_between_6 N ν x0 x1 K n x6 x8) := by
  intro n
  induction n with
  | zero => intros; exact G.no
  | succ n ih =>
    intro x6 x8
    rw [fl_L_between_6]
    refine G.iload E dL_between_6 7 rfl ?_
    refine G.aload_n E dL_between_8 2 rfl rfl ?_
    refine G.iconst (v := 3) E dL_between_9 (by decide) ?_
    refine G.ialdW (q0 := 0) (p0 := 0) (n := 6) ν E dL_between_10 (wsN_at0 _ _ _) (fun v1 => ?_)
    refine G.icmp_ge (tgt := 128) E dL_between_11 (by decide) ?_ ?_
    · refine G.widen (k1 := cb) (n1 := sb) (by omega) (by omega) ?_
      refine G.loc [6] rfl ?_
      exact hK x6
    · refine G.aload_n E dL_between_14 2 rfl rfl ?_
      refine G.iconst (v := 4) E dL_between_15 (by decide) ?_
      refine G.ialdW (q0 := 0) (p0 := 0) (n := 6) ν E dL_between_16 (wsN_at0 _ _ _) (fun v2 => ?_)
      refine G.iload E dL_between_17 7 rfl ?_
      refine G.ishr E dL_between_19 ?_
      refine G.iconst (v := 1) E dL_between_20 (by decide) ?_
      refine G.iand E dL_between_21 ?_
      refine G.jn (P := fun j => ∀ (v3 : Int64), G p l e (headSpec wsL_between rm_L_between).room s m args below meth c 10 cb sb D (wsN cy h) (adN h) Q 122 [(0, .int x0), (1, .int x1), (2, .ref (h 0)), (3, .ref (h 1)), (4, .ref (h 2)), (5, .ref (h 3)), (6, .long v3), (8, .int x8)] [] ν (j v3)) ?_ (fun j122 hj122 => ?_)
      · intro v3
        refine G.iinc (v := x8 + 1) (lv' := [(8, .int (x8 + 1)), (0, .int x0), (1, .int x1), (2, .ref (h 0)), (3, .ref (h 1)), (4, .ref (h 2)), (5, .ref (h 3)), (6, .long v3)]) E dL_between_122 7 rfl rfl (by decide) rfl ?_
        refine G.goto (tgt := 6) E dL_between_125 (by decide) ?_
        refine G.widen (k1 := cb) (n1 := sb) (by omega) (by omega) ?_
        refine G.loc [1, 2, 3, 4, 5, 6, 7, 0] rfl ?_
        exact ih v3 (x8 + 1)
      · refine G.if_eq (tgt := 122) E dL_between_22 (by decide) ?_ ?_
        · refine G.widen (k1 := cb) (n1 := sb) (by omega) (by omega) ?_
          refine G.loc [0, 1, 2, 3, 4, 5, 6, 7] rfl ?_
          exact hj122 x6
        · refine G.aload_n E dL_between_25 3 rfl rfl ?_
          refine G.iload E dL_between_26 7 rfl ?_
          refine G.ialdW (q0 := 1) (p0 := 1) (n := 20) ν E dL_between_28 (wsN_at1 _ _ _) (fun v4 => ?_)
          refine G.aload E dL_between_29 4 rfl ?_
          refine G.iload E dL_between_31 7 rfl ?_
          refine G.ialdW (q0 := 2) (p0 := 2) (n := 20) ν E dL_between_33 (wsN_at2 _ _ _) (fun v5 => ?_)
          refine G.icmp_ne (tgt := 40) E dL_between_34 (by decide) ?_ ?_
          · refine G.goto (tgt := 122) E dL_between_37 (by decide) ?_
            refine G.widen (k1 := cb) (n1 := sb) (by omega) (by omega) ?_
            refine G.loc [0, 1, 2, 3, 4, 5, 6, 7] rfl ?_
            exact hj122 x6
          · refine G.aload_n E dL_between_40 3 rfl rfl ?_
            refine G.iload E dL_between_41 7 rfl ?_
            refine G.ialdW (q0 := 1) (p0 := 1) (n := 20) ν E dL_between_43 (wsN_at1 _ _ _) (fun v6 => ?_)
            refine G.iload_n E dL_between_44 0 rfl rfl ?_
            refine G.jn (P := fun j => ∀ (v7 : Int32), G p l e (headSpec wsL_between rm_L_between).room s m args below meth c 10 cb sb D (wsN cy h) (adN h) Q 79 [(0, .int x0), (1, .int x1), (2, .ref (h 0)), (3, .ref (h 1)), (4, .ref (h 2)), (5, .ref (h 3)), (6, .long x6), (8, .int x8)] [.int v7] ν (j v7)) ?_ (fun j79 hj79 => ?_)
            · intro v7
              refine G.istore (lv' := [(9, .int v7), (0, .int x0), (1, .int x1), (2, .ref (h 0)), (3, .ref (h 1)), (4, .ref (h 2)), (5, .ref (h 3)), (6, .long x6), (8, .int x8)]) E dL_between_79 (by decide) rfl ?_
              refine G.iload_n E dL_between_81 1 rfl rfl ?_
              refine G.iload_n E dL_between_82 2 rfl rfl ?_
              refine G.jn (P := fun j => ∀ (_u : Unit), G p l e (headSpec wsL_between rm_L_between).room s m args below meth c 10 cb sb D (wsN cy h) (adN h) Q 111 [(0, .int x0), (1, .int x1), (2, .ref (h 0)), (3, .ref (h 1)), (4, .ref (h 2)), (5, .ref (h 3)), (6, .long x6), (8, .int x8)] [] ν (j _u)) ?_ (fun j111 hj111 => ?_)
              · intro _u
                refine G.lload E dL_between_111 6 rfl ?_
                refine G.aload E dL_between_113 5 rfl ?_
                refine G.iload E dL_between_115 7 rfl ?_
                refine G.ialdW (q0 := 3) (p0 := 3) (n := 20) ν E dL_between_117 (wsN_at3 _ _ _) (fun v8 => ?_)
                refine G.i2l E dL_between_118 ?_
                refine G.ladd E dL_between_119 ?_
                refine G.letL (fun v9 => ?_)
                refine G.lstore (lv' := [(6, .long v9), (0, .int x0), (1, .int x1), (2, .ref (h 0)), (3, .ref (h 1)), (4, .ref (h 2)), (5, .ref (h 3)), (8, .int x8)]) E dL_between_120 (by decide) rfl ?_
                refine G.widen (k1 := cb) (n1 := sb) (by omega) (by omega) ?_
                refine G.loc [1, 2, 3, 4, 5, 6, 0, 7] rfl ?_
                exact hj122 v9
              · refine G.icmp_ne (tgt := 106) E dL_between_83 (by decide) ?_ ?_
                · refine G.aload_n E dL_between_86 4 rfl rfl ?_
                  refine G.iload E dL_between_87 8 rfl ?_
                  refine G.ialdW (q0 := 1) (p0 := 1) (n := 20) ν E dL_between_89 (wsN_at1 _ _ _) (fun v10 => ?_)
                  refine G.iload_n E dL_between_90 1 rfl rfl ?_
                  refine G.icmp_eq (tgt := 111) E dL_between_91 (by decide) ?_ ?_
                  · refine G.widen (k1 := cb) (n1 := sb) (by omega) (by omega) ?_
                    refine G.loc [1, 2, 3, 4, 5, 6, 7, 8] rfl ?_
                    exact hj111 ()
                  · refine G.aload E dL_between_94 5 rfl ?_
                    refine G.iload E dL_between_96 8 rfl ?_
                    refine G.ialdW (q0 := 2) (p0 := 2) (n := 20) ν E dL_between_98 (wsN_at2 _ _ _) (fun v11 => ?_)
                    refine G.iload_n E dL_between_99 1 rfl rfl ?_
                    refine G.icmp_ne (tgt := 122) E dL_between_100 (by decide) ?_ ?_
                    · refine G.goto (tgt := 111) E dL_between_103 (by decide) ?_
                      refine G.widen (k1 := cb) (n1 := sb) (by omega) (by omega) ?_
                      refine G.loc [1, 2, 3, 4, 5, 6, 7, 8] rfl ?_
                      exact hj111 ()
                    · refine G.widen (k1 := cb) (n1 := sb) (by omega) (by omega) ?_
                      refine G.loc [1, 2, 3, 4, 5, 6, 7, 8] rfl ?_
                      exact hj122 x6
                · refine G.iload E dL_between_106 0 rfl ?_
                  refine G.if_eq (tgt := 122) E dL_between_108 (by decide) ?_ ?_
                  · refine G.widen (k1 := cb) (n1 := sb) (by omega) (by omega) ?_
                    refine G.loc [1, 2, 3, 4, 5, 6, 7, 8] rfl ?_
                    exact hj122 x6
                  · refine G.widen (k1 := cb) (n1 := sb) (by omega) (by omega) ?_
                    refine G.loc [1, 2, 3, 4, 5, 6, 7, 8] rfl ?_
                    exact hj111 ()
            · refine G.jn (P := fun j => ∀ (_u : Unit), G p l e (headSpec wsL_between rm_L_between).room s m args below meth c 10 cb sb D (wsN cy h) (adN h) Q 74 [(0, .int x0), (1, .int x1), (2, .ref (h 0)), (3, .ref (h 1)), (4, .ref (h 2)), (5, .ref (h 3)), (6, .long x6), (8, .int x8)] [] ν (j _u)) ?_ (fun j74 hj74 => ?_)
              · intro _u
                refine G.iconst (v := 1) E dL_between_74 (by decide) ?_
                refine G.goto (tgt := 79) E dL_between_75 (by decide) ?_
                refine G.widen (k1 := cb) (n1 := sb) (by omega) (by omega) ?_
                refine G.loc [0, 1, 2, 3, 4, 5, 6, 7] rfl ?_
                exact hj79 1
              · refine G.jn (P := fun j => ∀ (_u : Unit), G p l e (headSpec wsL_between rm_L_between).room s m args below meth c 10 cb sb D (wsN cy h) (adN h) Q 57 [(0, .int x0), (1, .int x1), (2, .ref (h 0)), (3, .ref (h 1)), (4, .ref (h 2)), (5, .ref (h 3)), (6, .long x6), (8, .int x8)] [] ν (j _u)) ?_ (fun j57 hj57 => ?_)
                · intro _u
                  refine G.aload_n E dL_between_57 3 rfl rfl ?_
                  refine G.iload E dL_between_58 7 rfl ?_
                  refine G.ialdW (q0 := 1) (p0 := 1) (n := 20) ν E dL_between_60 (wsN_at1 _ _ _) (fun v12 => ?_)
                  refine G.iload_n E dL_between_61 1 rfl rfl ?_
                  refine G.jn (P := fun j => ∀ (_u : Unit), G p l e (headSpec wsL_between rm_L_between).room s m args below meth c 10 cb sb D (wsN cy h) (adN h) Q 78 [(0, .int x0), (1, .int x1), (2, .ref (h 0)), (3, .ref (h 1)), (4, .ref (h 2)), (5, .ref (h 3)), (6, .long x6), (8, .int x8)] [] ν (j _u)) ?_ (fun j78 hj78 => ?_)
                  · intro _u
                    refine G.iconst (v := 0) E dL_between_78 (by decide) ?_
                    refine G.widen (k1 := cb) (n1 := sb) (by omega) (by omega) ?_
                    refine G.loc [0, 1, 2, 3, 4, 5, 6, 7] rfl ?_
                    exact hj79 0
                  · refine G.icmp_ne (tgt := 78) E dL_between_62 (by decide) ?_ ?_
                    · refine G.aload E dL_between_65 4 rfl ?_
                      refine G.iload E dL_between_67 7 rfl ?_
                      refine G.ialdW (q0 := 2) (p0 := 2) (n := 20) ν E dL_between_69 (wsN_at2 _ _ _) (fun v13 => ?_)
                      refine G.iload_n E dL_between_70 0 rfl rfl ?_
                      refine G.icmp_ne (tgt := 78) E dL_between_71 (by decide) ?_ ?_
                      · refine G.widen (k1 := cb) (n1 := sb) (by omega) (by omega) ?_
                        refine G.loc [0, 1, 2, 3, 4, 5, 6, 7] rfl ?_
                        exact hj74 ()
                      · refine G.widen (k1 := cb) (n1 := sb) (by omega) (by omega) ?_
                        refine G.loc [0, 1, 2, 3, 4, 5, 6, 7] rfl ?_
                        exact hj78 ()
                    · refine G.widen (k1 := cb) (n1 := sb) (by omega) (by omega) ?_
                      refine G.loc [0, 1, 2, 3, 4, 5, 6, 7] rfl ?_
                      exact hj78 ()
                · refine G.icmp_ne (tgt := 57) E dL_between_45 (by decide) ?_ ?_
                  · refine G.aload E dL_between_48 4 rfl ?_
                    refine G.iload E dL_between_50 7 rfl ?_
                    refine G.ialdW (q0 := 2) (p0 := 2) (n := 20) ν E dL_between_52 (wsN_at2 _ _ _) (fun v14 => ?_)
                    refine G.iload_n E dL_between_53 1 rfl rfl ?_
                    refine G.icmp_eq (tgt := 74) E dL_between_54 (by decide) ?_ ?_
                    · refine G.widen (k1 := cb) (n1 := sb) (by omega) (by omega) ?_
                      refine G.loc [0, 1, 2, 3, 4, 5, 6, 7] rfl ?_
                      exact hj74 ()
                    · refine G.widen (k1 := cb) (n1 := sb) (by omega) (by omega) ?_
                      refine G.loc [0, 1, 2, 3, 4, 5, 6, 7] rfl ?_
                      exact hj57 ()
                  · refine G.widen (k1 := cb) (n1 := sb) (by omega) (by omega) ?_
                    refine G.loc [0, 1, 2, 3, 4, 5, 6, 7] rfl ?_
                    exact hj57 ()
noncomputable def f_L_between (N : Nat) (ν : Wd) (a0 : Int32) (a1 : Int32) : Option (Int64) :=
  fl_L_between_6 N ν a0 a1 (fun v15 =>
    some v15) N 0 0
set_option maxHeartbeats 4000000 in
set_option maxRecDepth 100000 in
theorem c_L_between {l : Launch} {D : va_G} {cy : Nat → ClassId} {h : Nat → Nat} {N : Nat} {ν : Wd} {a0 : Int32} {a1 : Int32} {r : Int64} (hW : WF (wsN cy h) (adN h)) (hr : f_L_between N ν a0 a1 = some r) : Con l D cy (wsN cy h) (adN h) yL_between wsL_between rm_L_between 0 0 [.int a0, .int a1, .ref (h 0), .ref (h 1), .ref (h 2), .ref (h 3)] (some (.long r)) ν ν := by
  refine Con.ofM (ρ := Int64) (lv0 := [(0, .int a0), (1, .int a1), (2, .ref (h 0)), (3, .ref (h 1)), (4, .ref (h 2)), (5, .ref (h 3))]) (σ := ν) (mc := 0) (ms := 0) (fun r : Int64 => some (.long r)) (fun _ => ν) (by decide) rfl rfl (Nat.le_of_ble_eq_true rfl) rfl hW hr (fun p e s m args below meth c E => ?_)
  unfold f_L_between
  refine G.lconst (v := 0) E dL_between_0 (by decide) ?_
  refine G.lstore (lv' := [(6, .long 0), (0, .int a0), (1, .int a1), (2, .ref (h 0)), (3, .ref (h 1)), (4, .ref (h 2)), (5, .ref (h 3))]) E dL_between_1 (by decide) rfl ?_
  refine G.iconst (v := 0) E dL_between_3 (by decide) ?_
  refine G.istore (lv' := [(8, .int 0), (6, .long 0), (0, .int a0), (1, .int a1), (2, .ref (h 0)), (3, .ref (h 1)), (4, .ref (h 2)), (5, .ref (h 3))]) E dL_between_4 (by decide) rfl ?_
  refine G.widen (k1 := 0) (n1 := 0) (by omega) (by omega) ?_
  refine G.loc [2, 3, 4, 5, 6, 7, 1, 0] rfl ?_
  refine gl_L_between_6 (cb := 0) (sb := 0) E (by omega) (by omega) (fun v15 => ?_) N _ _
  refine G.lload E dL_between_128 0 rfl ?_
  refine G.widen (k1 := 0) (n1 := 0) (by omega) (by omega) ?_
  exact G.lret E dL_between_130 rfl rfl
abbrev rm_L_inner : Room := { frames := 0, cells := 0, slots := 0, locals := 0 }
noncomputable def f_L_inner (N : Nat) (ν : Wd) : Option (Int32) :=
  rI ν 0 6 1 fun v1 =>
  rI ν 0 6 2 fun v2 =>
  some (v1 &&& (v2 ^^^ (-1)))
set_option maxHeartbeats 4000000 in
set_option maxRecDepth 100000 in
theorem c_L_inner {l : Launch} {D : va_G} {cy : Nat → ClassId} {h : Nat → Nat} {N : Nat} {ν : Wd} {r : Int32} (hW : WF (wsN cy h) (adN h)) (hr : f_L_inner N ν = some r) : Con l D cy (wsN cy h) (adN h) yL_inner wsL_inner rm_L_inner 0 0 [.ref (h 0)] (some (.int r)) ν ν := by
  refine Con.ofM (ρ := Int32) (lv0 := [(0, .ref (h 0))]) (σ := ν) (mc := 0) (ms := 0) (fun r : Int32 => some (.int r)) (fun _ => ν) (by decide) rfl rfl (Nat.le_of_ble_eq_true rfl) rfl hW hr (fun p e s m args below meth c E => ?_)
  unfold f_L_inner
  refine G.aload_n E dL_inner_0 0 rfl rfl ?_
  refine G.iconst (v := 1) E dL_inner_1 (by decide) ?_
  refine G.ialdW (q0 := 0) (p0 := 0) (n := 6) ν E dL_inner_2 (wsN_at0 _ _ _) (fun v1 => ?_)
  refine G.aload_n E dL_inner_3 0 rfl rfl ?_
  refine G.iconst (v := 2) E dL_inner_4 (by decide) ?_
  refine G.ialdW (q0 := 0) (p0 := 0) (n := 6) ν E dL_inner_5 (wsN_at0 _ _ _) (fun v2 => ?_)
  refine G.iconst (v := (-1)) E dL_inner_6 (by decide) ?_
  refine G.ixor E dL_inner_7 ?_
  refine G.iand E dL_inner_8 ?_
  refine G.widen (k1 := 0) (n1 := 0) (by omega) (by omega) ?_
  exact G.iret E dL_inner_9 rfl rfl
abbrev rm_L_minor : Room := { frames := 1, cells := 2, slots := 71, locals := 29 }
noncomputable def fl_L_minor_18 {ρ : Type} (N : Nat) (ν : Wd) (x0 : Int32) (x1 : Int32) (x2 : Int32) (K : Int32 → Wd → Option (ρ)) : Nat → Int32 → Int32 → Wd → Option (ρ)
  | 0, _, _, _ => none
  | n + 1, x9, x10, τ0 =>
    if 7 ≤ x10 then (
      K x9 τ0)
    else (
      jn (fun (v1 : Int32) (s2 : Wd) => ((
        fl_L_minor_18 N ν x0 x1 x2 K n v1 (x10 + 1) s2) : Option (ρ))) fun j45 =>
      if ((x0 >>> (x10 &&& 31)) &&& 1) = 1 then (
        aI τ0 13 7 x9 x10 fun s3 =>
        j45 (x9 + 1) s3)
      else (
        j45 x9 τ0))
set_option maxHeartbeats 4000000 in
set_option maxRecDepth 100000 in
theorem gl_L_minor_18 {ρ : Type} {Q : ρ → State → Prop} {N : Nat} {q1 : Nat} {q2 : Nat} {ν : Wd} {x0 : Int32} {x1 : Int32} {x2 : Int32} {cb sb : Nat} {K : Int32 → Wd → Option (ρ)} (E : EV p s m args meth c cL_minor 17 RL wsL_minor (some .long) D cy (wsM2 cy h q1 q2) ((adN h ++ [q1]) ++ [q2])) (hWN : WF (wsN cy h) (adN h)) (E0 : EV p s m args meth c cL_minor 17 RL wsL_minor (some .long) D cy (wsN cy h) (adN h)) (hA : wA ((adN h ++ [q1]) ++ [q2]) s.heap.size = wA (adN h) s.heap.size) (hcb : cb ≤ 2) (hsb : sb ≤ 71) (hK : ∀ (x9' : Int32) (τ0' : Wd), G p l e (headSpec wsL_minor rm_L_minor).room s m args below meth c 17 cb sb D (wsM2 cy h q1 q2) ((adN h ++ [q1]) ++ [q2]) Q 51 [(1, .int x1), (2, .int x2), (3, .ref (h 0)), (4, .ref (h 1)), (5, .ref (h 2)), (6, .ref (h 3)), (7, .ref q1), (8, .ref q2), (9, .int (x9'))] [] (ν, τ0') (K x9' τ0')) :
  ∀ (n : Nat), ∀ (x9 : Int32) (x10 : Int32) (τ0 : Wd), G p l e (headSpec wsL_minor rm_L_minor).room s m args below meth c 17 cb sb D (wsM2 cy h q1 q2) ((adN h ++ [q1]) ++ [q2]) Q 18 [(0, .int x0), (1, .int x1), (2, .int x2), (3, .ref (h 0)), (4, .ref (h 1)), (5, .ref (h 2)), (6, .ref (h 3)), (7, .ref q1), (8, .ref q2), (9, .int x9), (10, .int x10)] [] (ν, τ0) (fl_L_minor_18 N ν x0 x1 x2 K n x9 x10 τ0) := by
  intro n
  induction n with
  | zero => intros; exact G.no
  | succ n ih =>
    intro x9 x10 τ0
    rw [fl_L_minor_18]
    refine G.iload E dL_minor_18 10 rfl ?_
    refine G.bipush (v := 7) E dL_minor_20 (by decide) ?_
    refine G.icmp_ge (tgt := 51) E dL_minor_22 (by decide) ?_ ?_
    · refine G.widen (k1 := cb) (n1 := sb) (by omega) (by omega) ?_
      refine G.loc [1, 2, 3, 4, 5, 6, 7, 8, 9] rfl ?_
      exact hK x9 τ0
    · refine G.iload_n E dL_minor_25 0 rfl rfl ?_
      refine G.iload E dL_minor_26 10 rfl ?_
      refine G.ishr E dL_minor_28 ?_
      refine G.iconst (v := 1) E dL_minor_29 (by decide) ?_
      refine G.iand E dL_minor_30 ?_
      refine G.iconst (v := 1) E dL_minor_31 (by decide) ?_
      refine G.jn (P := fun j => ∀ (v1 : Int32) (s2 : Wd), G p l e (headSpec wsL_minor rm_L_minor).room s m args below meth c 17 cb sb D (wsM2 cy h q1 q2) ((adN h ++ [q1]) ++ [q2]) Q 45 [(0, .int x0), (1, .int x1), (2, .int x2), (3, .ref (h 0)), (4, .ref (h 1)), (5, .ref (h 2)), (6, .ref (h 3)), (7, .ref q1), (8, .ref q2), (9, .int v1), (10, .int x10)] [] (ν, s2) (j v1 s2)) ?_ (fun j45 hj45 => ?_)
      · intro v1 s2
        refine G.iinc (v := x10 + 1) (lv' := [(10, .int (x10 + 1)), (0, .int x0), (1, .int x1), (2, .int x2), (3, .ref (h 0)), (4, .ref (h 1)), (5, .ref (h 2)), (6, .ref (h 3)), (7, .ref q1), (8, .ref q2), (9, .int v1)]) E dL_minor_45 10 rfl rfl (by decide) rfl ?_
        refine G.goto (tgt := 18) E dL_minor_48 (by decide) ?_
        refine G.widen (k1 := cb) (n1 := sb) (by omega) (by omega) ?_
        refine G.loc [1, 2, 3, 4, 5, 6, 7, 8, 9, 10, 0] rfl ?_
        exact ih v1 (x10 + 1) s2
      · refine G.icmp_ne (tgt := 45) E dL_minor_32 (by decide) ?_ ?_
        · refine G.aload E dL_minor_35 8 rfl ?_
          refine G.iload E dL_minor_37 9 rfl ?_
          refine G.iinc (v := x9 + 1) (lv' := [(9, .int (x9 + 1)), (0, .int x0), (1, .int x1), (2, .int x2), (3, .ref (h 0)), (4, .ref (h 1)), (5, .ref (h 2)), (6, .ref (h 3)), (7, .ref q1), (8, .ref q2), (10, .int x10)]) E dL_minor_39 9 rfl rfl (by decide) rfl ?_
          refine G.iload E dL_minor_42 10 rfl ?_
          refine G.iastW (q0 := 13) (p0 := 13) (n := 7) τ0 (fun x => (ν, x)) E dL_minor_44 (wsM2_at13 _ _ _ _ _) (fun j => (wsM2_set13 _ _ _ _ _ _ _ j)) (fun s3 => ?_)
          refine G.widen (k1 := cb) (n1 := sb) (by omega) (by omega) ?_
          refine G.loc [1, 2, 3, 4, 5, 6, 7, 8, 9, 0, 10] rfl ?_
          exact hj45 (x9 + 1) s3
        · refine G.widen (k1 := cb) (n1 := sb) (by omega) (by omega) ?_
          refine G.loc [0, 1, 2, 3, 4, 5, 6, 7, 8, 9, 10] rfl ?_
          exact hj45 x9 τ0
noncomputable def fl_L_minor_76 {ρ : Type} (N : Nat) (ν : Wd) (τ : Wd) (x1 : Int32) (x2 : Int32) (x9 : Int32) (x10 : Int32) (K : Int32 → Option (ρ)) : Nat → Int32 → Int32 → Option (ρ)
  | 0, _, _ => none
  | n + 1, x11, x12 =>
    if x9 ≤ x12 then (
      K x11)
    else (
      lI (x11 + ((x10 >>> (x12 &&& 31)) &&& 1)) fun v7 =>
      fl_L_minor_76 N ν τ x1 x2 x9 x10 K n v7 (x12 + 1))
set_option maxHeartbeats 4000000 in
set_option maxRecDepth 100000 in
theorem gl_L_minor_76 {ρ : Type} {Q : ρ → State → Prop} {N : Nat} {q1 : Nat} {q2 : Nat} {ν : Wd} {τ : Wd} {x1 : Int32} {x2 : Int32} {x9 : Int32} {x10 : Int32} {cb sb : Nat} {K : Int32 → Option (ρ)} (E : EV p s m args meth c cL_minor 17 RL wsL_minor (some .long) D cy (wsM2 cy h q1 q2) ((adN h ++ [q1]) ++ [q2])) (hWN : WF (wsN cy h) (adN h)) (E0 : EV p s m args meth c cL_minor 17 RL wsL_minor (some .long) D cy (wsN cy h) (adN h)) (hA : wA ((adN h ++ [q1]) ++ [q2]) s.heap.size = wA (adN h) s.heap.size) (hcb : cb ≤ 2) (hsb : sb ≤ 71) (hK : ∀ (x11' : Int32), G p l e (headSpec wsL_minor rm_L_minor).room s m args below meth c 17 cb sb D (wsM2 cy h q1 q2) ((adN h ++ [q1]) ++ [q2]) Q 101 [(1, .int x1), (2, .int x2), (3, .ref (h 0)), (4, .ref (h 1)), (5, .ref (h 2)), (6, .ref (h 3)), (7, .ref q1), (8, .ref q2), (9, .int x9), (10, .int x10), (11, .int (x11'))] [] (ν, τ) (K x11')) :
  ∀ (n : Nat), ∀ (x11 : Int32) (x12 : Int32), G p l e (headSpec wsL_minor rm_L_minor).room s m args below meth c 17 cb sb D (wsM2 cy h q1 q2) ((adN h ++ [q1]) ++ [q2]) Q 76 [(1, .int x1), (2, .int x2), (3, .ref (h 0)), (4, .ref (h 1)), (5, .ref (h 2)), (6, .ref (h 3)), (7, .ref q1), (8, .ref q2), (9, .int x9), (10, .int x10), (11, .int x11), (12, .int x12)] [] (ν, τ) (fl_L_minor_76 N ν τ x1 x2 x9 x10 K n x11 x12) := by
  intro n
  induction n with
  | zero => intros; exact G.no
  | succ n ih =>
    intro x11 x12
    rw [fl_L_minor_76]
    refine G.iload E dL_minor_76 11 rfl ?_
    refine G.iload E dL_minor_78 8 rfl ?_
    refine G.icmp_ge (tgt := 101) E dL_minor_80 (by decide) ?_ ?_
    · refine G.widen (k1 := cb) (n1 := sb) (by omega) (by omega) ?_
      refine G.loc [0, 1, 2, 3, 4, 5, 6, 7, 8, 9, 10] rfl ?_
      exact hK x11
    · refine G.iload E dL_minor_83 10 rfl ?_
      refine G.iload E dL_minor_85 9 rfl ?_
      refine G.iload E dL_minor_87 11 rfl ?_
      refine G.ishr E dL_minor_89 ?_
      refine G.iconst (v := 1) E dL_minor_90 (by decide) ?_
      refine G.iand E dL_minor_91 ?_
      refine G.iadd E dL_minor_92 ?_
      refine G.letI (fun v7 => ?_)
      refine G.istore (lv' := [(11, .int v7), (1, .int x1), (2, .int x2), (3, .ref (h 0)), (4, .ref (h 1)), (5, .ref (h 2)), (6, .ref (h 3)), (7, .ref q1), (8, .ref q2), (9, .int x9), (10, .int x10), (12, .int x12)]) E dL_minor_93 (by decide) rfl ?_
      refine G.iinc (v := x12 + 1) (lv' := [(12, .int (x12 + 1)), (11, .int v7), (1, .int x1), (2, .int x2), (3, .ref (h 0)), (4, .ref (h 1)), (5, .ref (h 2)), (6, .ref (h 3)), (7, .ref q1), (8, .ref q2), (9, .int x9), (10, .int x10)]) E dL_minor_95 11 rfl rfl (by decide) rfl ?_
      refine G.goto (tgt := 76) E dL_minor_98 (by decide) ?_
      refine G.widen (k1 := cb) (n1 := sb) (by omega) (by omega) ?_
      refine G.loc [2, 3, 4, 5, 6, 7, 8, 9, 10, 11, 1, 0] rfl ?_
      exact ih v7 (x12 + 1)
noncomputable def fl_L_minor_134 {ρ : Type} (N : Nat) (ν : Wd) (τ : Wd) (x1 : Int32) (x2 : Int32) (x9 : Int32) (x10 : Int32) (x11 : Int32) (x12 : Int32) (K : Int32 → Option (ρ)) : Nat → Int32 → Int32 → Option (ρ)
  | 0, _, _ => none
  | n + 1, x13, x14 =>
    if x9 ≤ x14 then (
      K x13)
    else (
      lI (x13 + ((x10 >>> (x14 &&& 31)) &&& 1)) fun v11 =>
      fl_L_minor_134 N ν τ x1 x2 x9 x10 x11 x12 K n v11 (x14 + 1))
set_option maxHeartbeats 4000000 in
set_option maxRecDepth 100000 in
theorem gl_L_minor_134 {ρ : Type} {Q : ρ → State → Prop} {N : Nat} {q1 : Nat} {q2 : Nat} {ν : Wd} {τ : Wd} {x1 : Int32} {x2 : Int32} {x9 : Int32} {x10 : Int32} {x11 : Int32} {x12 : Int32} {cb sb : Nat} {K : Int32 → Option (ρ)} (E : EV p s m args meth c cL_minor 17 RL wsL_minor (some .long) D cy (wsM2 cy h q1 q2) ((adN h ++ [q1]) ++ [q2])) (hWN : WF (wsN cy h) (adN h)) (E0 : EV p s m args meth c cL_minor 17 RL wsL_minor (some .long) D cy (wsN cy h) (adN h)) (hA : wA ((adN h ++ [q1]) ++ [q2]) s.heap.size = wA (adN h) s.heap.size) (hcb : cb ≤ 2) (hsb : sb ≤ 71) (hK : ∀ (x13' : Int32), G p l e (headSpec wsL_minor rm_L_minor).room s m args below meth c 17 cb sb D (wsM2 cy h q1 q2) ((adN h ++ [q1]) ++ [q2]) Q 159 [(1, .int x1), (2, .int x2), (3, .ref (h 0)), (4, .ref (h 1)), (5, .ref (h 2)), (6, .ref (h 3)), (7, .ref q1), (8, .ref q2), (9, .int x9), (10, .int x10), (11, .int x11), (12, .int x12), (13, .int (x13'))] [] (ν, τ) (K x13')) :
  ∀ (n : Nat), ∀ (x13 : Int32) (x14 : Int32), G p l e (headSpec wsL_minor rm_L_minor).room s m args below meth c 17 cb sb D (wsM2 cy h q1 q2) ((adN h ++ [q1]) ++ [q2]) Q 134 [(1, .int x1), (2, .int x2), (3, .ref (h 0)), (4, .ref (h 1)), (5, .ref (h 2)), (6, .ref (h 3)), (7, .ref q1), (8, .ref q2), (9, .int x9), (10, .int x10), (11, .int x11), (12, .int x12), (13, .int x13), (14, .int x14)] [] (ν, τ) (fl_L_minor_134 N ν τ x1 x2 x9 x10 x11 x12 K n x13 x14) := by
  intro n
  induction n with
  | zero => intros; exact G.no
  | succ n ih =>
    intro x13 x14
    rw [fl_L_minor_134]
    refine G.iload E dL_minor_134 13 rfl ?_
    refine G.iload E dL_minor_136 8 rfl ?_
    refine G.icmp_ge (tgt := 159) E dL_minor_138 (by decide) ?_ ?_
    · refine G.widen (k1 := cb) (n1 := sb) (by omega) (by omega) ?_
      refine G.loc [0, 1, 2, 3, 4, 5, 6, 7, 8, 9, 10, 11, 12] rfl ?_
      exact hK x13
    · refine G.iload E dL_minor_141 12 rfl ?_
      refine G.iload E dL_minor_143 9 rfl ?_
      refine G.iload E dL_minor_145 13 rfl ?_
      refine G.ishr E dL_minor_147 ?_
      refine G.iconst (v := 1) E dL_minor_148 (by decide) ?_
      refine G.iand E dL_minor_149 ?_
      refine G.iadd E dL_minor_150 ?_
      refine G.letI (fun v11 => ?_)
      refine G.istore (lv' := [(13, .int v11), (1, .int x1), (2, .int x2), (3, .ref (h 0)), (4, .ref (h 1)), (5, .ref (h 2)), (6, .ref (h 3)), (7, .ref q1), (8, .ref q2), (9, .int x9), (10, .int x10), (11, .int x11), (12, .int x12), (14, .int x14)]) E dL_minor_151 (by decide) rfl ?_
      refine G.iinc (v := x14 + 1) (lv' := [(14, .int (x14 + 1)), (13, .int v11), (1, .int x1), (2, .int x2), (3, .ref (h 0)), (4, .ref (h 1)), (5, .ref (h 2)), (6, .ref (h 3)), (7, .ref q1), (8, .ref q2), (9, .int x9), (10, .int x10), (11, .int x11), (12, .int x12)]) E dL_minor_153 13 rfl rfl (by decide) rfl ?_
      refine G.goto (tgt := 134) E dL_minor_156 (by decide) ?_
      refine G.widen (k1 := cb) (n1 := sb) (by omega) (by omega) ?_
      refine G.loc [2, 3, 4, 5, 6, 7, 8, 9, 10, 11, 12, 13, 1, 0] rfl ?_
      exact ih v11 (x14 + 1)
noncomputable def fl_L_minor_104 {ρ : Type} (N : Nat) (ν : Wd) (x1 : Int32) (x2 : Int32) (x9 : Int32) (x10 : Int32) (x11 : Int32) (K : Wd → Option (ρ)) : Nat → Int32 → Wd → Option (ρ)
  | 0, _, _ => none
  | n + 1, x12, τ0 =>
    if x9 ≤ x12 then (
      K τ0)
    else (
      jn (fun (s9 : Wd) => ((
        fl_L_minor_104 N ν x1 x2 x9 x10 x11 K n (x12 + 1) s9) : Option (ρ))) fun j262 =>
      if ((x10 >>> (x12 &&& 31)) &&& 1) = 1 then (
        j262 τ0)
      else (
        lI (x12 + 1) fun v10 =>
        fl_L_minor_134 N ν τ0 x1 x2 x9 x10 x11 x12 (fun v12 =>
          rI τ0 13 7 x12 fun v13 =>
          jn (fun (v14 : Int32) => ((
            rI τ0 13 7 x11 fun v15 =>
            bP (f_L_between N ν v15 v14) fun v16 =>
            rI τ0 13 7 x11 fun v17 =>
            jn (fun (v18 : Int64) => ((
              rL τ0 12 64 (x10 ||| (1 <<< (x12 &&& 31))) fun v19 =>
              mI v12 2 fun v20 =>
              jn (fun (v21 : Int64) => ((
                aL τ0 12 64 (x10 ||| (1 <<< (x12 &&& 31))) (v19 + v21) fun s22 =>
                j262 s22) : Option (ρ))) fun j260 =>
              if v20 = 0 then (
                rL τ0 12 64 x10 fun v24 =>
                j260 (v18 * v24))
              else (
                rL τ0 12 64 x10 fun v23 =>
                j260 ((-v18) * v23))) : Option (ρ))) fun j222 =>
            if v17 = v14 then (
              j222 v16)
            else (
              rI τ0 13 7 x12 fun v25 =>
              if v25 = x1 then (
                j222 v16)
              else (
                lL (-v16) fun v26 =>
                j222 v26))) : Option (ρ))) fun j177 =>
          if v13 = x1 then (
            j177 x2)
          else (
            rI τ0 13 7 x12 fun v27 =>
            j177 v27)) N 0 v10))
set_option maxHeartbeats 4000000 in
set_option maxRecDepth 100000 in
theorem gl_L_minor_104 {ρ : Type} {Q : ρ → State → Prop} {N : Nat} {q1 : Nat} {q2 : Nat} {ν : Wd} {x1 : Int32} {x2 : Int32} {x9 : Int32} {x10 : Int32} {x11 : Int32} {cb sb : Nat} {K : Wd → Option (ρ)} (E : EV p s m args meth c cL_minor 17 RL wsL_minor (some .long) D cy (wsM2 cy h q1 q2) ((adN h ++ [q1]) ++ [q2])) (hWN : WF (wsN cy h) (adN h)) (E0 : EV p s m args meth c cL_minor 17 RL wsL_minor (some .long) D cy (wsN cy h) (adN h)) (hA : wA ((adN h ++ [q1]) ++ [q2]) s.heap.size = wA (adN h) s.heap.size) (hcb : cb ≤ 2) (hsb : sb ≤ 71) (hK : ∀ (τ0' : Wd), G p l e (headSpec wsL_minor rm_L_minor).room s m args below meth c 17 cb sb D (wsM2 cy h q1 q2) ((adN h ++ [q1]) ++ [q2]) Q 268 [(1, .int x1), (2, .int x2), (3, .ref (h 0)), (4, .ref (h 1)), (5, .ref (h 2)), (6, .ref (h 3)), (7, .ref q1), (8, .ref q2), (9, .int x9), (10, .int x10)] [] (ν, τ0') (K τ0')) :
  ∀ (n : Nat), ∀ (x12 : Int32) (τ0 : Wd), G p l e (headSpec wsL_minor rm_L_minor).room s m args below meth c 17 cb sb D (wsM2 cy h q1 q2) ((adN h ++ [q1]) ++ [q2]) Q 104 [(1, .int x1), (2, .int x2), (3, .ref (h 0)), (4, .ref (h 1)), (5, .ref (h 2)), (6, .ref (h 3)), (7, .ref q1), (8, .ref q2), (9, .int x9), (10, .int x10), (11, .int x11), (12, .int x12)] [] (ν, τ0) (fl_L_minor_104 N ν x1 x2 x9 x10 x11 K n x12 τ0) := by
  intro n
  induction n with
  | zero => intros; exact G.no
  | succ n ih =>
    intro x12 τ0
    rw [fl_L_minor_104]
    refine G.iload E dL_minor_104 11 rfl ?_
    refine G.iload E dL_minor_106 8 rfl ?_
    refine G.icmp_ge (tgt := 268) E dL_minor_108 (by decide) ?_ ?_
    · refine G.widen (k1 := cb) (n1 := sb) (by omega) (by omega) ?_
      refine G.loc [0, 1, 2, 3, 4, 5, 6, 7, 8, 9] rfl ?_
      exact hK τ0
    · refine G.iload E dL_minor_111 9 rfl ?_
      refine G.iload E dL_minor_113 11 rfl ?_
      refine G.ishr E dL_minor_115 ?_
      refine G.iconst (v := 1) E dL_minor_116 (by decide) ?_
      refine G.iand E dL_minor_117 ?_
      refine G.iconst (v := 1) E dL_minor_118 (by decide) ?_
      refine G.jn (P := fun j => ∀ (s9 : Wd), G p l e (headSpec wsL_minor rm_L_minor).room s m args below meth c 17 cb sb D (wsM2 cy h q1 q2) ((adN h ++ [q1]) ++ [q2]) Q 262 [(1, .int x1), (2, .int x2), (3, .ref (h 0)), (4, .ref (h 1)), (5, .ref (h 2)), (6, .ref (h 3)), (7, .ref q1), (8, .ref q2), (9, .int x9), (10, .int x10), (11, .int x11), (12, .int x12)] [] (ν, s9) (j s9)) ?_ (fun j262 hj262 => ?_)
      · intro s9
        refine G.iinc (v := x12 + 1) (lv' := [(12, .int (x12 + 1)), (1, .int x1), (2, .int x2), (3, .ref (h 0)), (4, .ref (h 1)), (5, .ref (h 2)), (6, .ref (h 3)), (7, .ref q1), (8, .ref q2), (9, .int x9), (10, .int x10), (11, .int x11)]) E dL_minor_262 11 rfl rfl (by decide) rfl ?_
        refine G.goto (tgt := 104) E dL_minor_265 (by decide) ?_
        refine G.widen (k1 := cb) (n1 := sb) (by omega) (by omega) ?_
        refine G.loc [1, 2, 3, 4, 5, 6, 7, 8, 9, 10, 11, 0] rfl ?_
        exact ih (x12 + 1) s9
      · refine G.icmp_ne (tgt := 125) E dL_minor_119 (by decide) ?_ ?_
        · refine G.goto (tgt := 262) E dL_minor_122 (by decide) ?_
          refine G.widen (k1 := cb) (n1 := sb) (by omega) (by omega) ?_
          refine G.loc [0, 1, 2, 3, 4, 5, 6, 7, 8, 9, 10, 11] rfl ?_
          exact hj262 τ0
        · refine G.iconst (v := 0) E dL_minor_125 (by decide) ?_
          refine G.istore (lv' := [(13, .int 0), (1, .int x1), (2, .int x2), (3, .ref (h 0)), (4, .ref (h 1)), (5, .ref (h 2)), (6, .ref (h 3)), (7, .ref q1), (8, .ref q2), (9, .int x9), (10, .int x10), (11, .int x11), (12, .int x12)]) E dL_minor_126 (by decide) rfl ?_
          refine G.iload E dL_minor_128 12 rfl ?_
          refine G.iconst (v := 1) E dL_minor_130 (by decide) ?_
          refine G.iadd E dL_minor_131 ?_
          refine G.letI (fun v10 => ?_)
          refine G.istore (lv' := [(14, .int v10), (13, .int 0), (1, .int x1), (2, .int x2), (3, .ref (h 0)), (4, .ref (h 1)), (5, .ref (h 2)), (6, .ref (h 3)), (7, .ref q1), (8, .ref q2), (9, .int x9), (10, .int x10), (11, .int x11), (12, .int x12)]) E dL_minor_132 (by decide) rfl ?_
          refine G.widen (k1 := cb) (n1 := sb) (by omega) (by omega) ?_
          refine G.loc [2, 3, 4, 5, 6, 7, 8, 9, 10, 11, 12, 13, 1, 0] rfl ?_
          refine gl_L_minor_134 (cb := cb) (sb := sb) E hWN E0 hA (by omega) (by omega) (fun v12 => ?_) N _ _
          refine G.aload E dL_minor_159 7 rfl ?_
          refine G.iload E dL_minor_161 11 rfl ?_
          refine G.ialdW (q0 := 13) (p0 := 13) (n := 7) τ0 E dL_minor_163 (wsM2_at13 _ _ _ _ _) (fun v13 => ?_)
          refine G.iload_n E dL_minor_164 0 rfl rfl ?_
          refine G.jn (P := fun j => ∀ (v14 : Int32), G p l e (headSpec wsL_minor rm_L_minor).room s m args below meth c 17 cb sb D (wsM2 cy h q1 q2) ((adN h ++ [q1]) ++ [q2]) Q 177 [(1, .int x1), (2, .int x2), (3, .ref (h 0)), (4, .ref (h 1)), (5, .ref (h 2)), (6, .ref (h 3)), (7, .ref q1), (8, .ref q2), (9, .int x9), (10, .int x10), (11, .int x11), (12, .int x12), (13, .int v12)] [.int v14] (ν, τ0) (j v14)) ?_ (fun j177 hj177 => ?_)
          · intro v14
            refine G.istore (lv' := [(14, .int v14), (1, .int x1), (2, .int x2), (3, .ref (h 0)), (4, .ref (h 1)), (5, .ref (h 2)), (6, .ref (h 3)), (7, .ref q1), (8, .ref q2), (9, .int x9), (10, .int x10), (11, .int x11), (12, .int x12), (13, .int v12)]) E dL_minor_177 (by decide) rfl ?_
            refine G.aload E dL_minor_179 8 rfl ?_
            refine G.iload E dL_minor_181 11 rfl ?_
            refine G.ialdW (q0 := 13) (p0 := 13) (n := 7) τ0 E dL_minor_183 (wsM2_at13 _ _ _ _ _) (fun v15 => ?_)
            refine G.iload E dL_minor_184 0 rfl ?_
            refine G.aload_n E dL_minor_186 3 rfl rfl ?_
            refine G.aload E dL_minor_187 4 rfl ?_
            refine G.aload E dL_minor_189 5 rfl ?_
            refine G.aload E dL_minor_191 6 rfl ?_
            refine G.callSl (mc := 0) (ms := 0) (rm := rm_L_between) (n := 6) (As := [.int v15, .int v14, .ref (h 0), .ref (h 1), .ref (h 2), .ref (h 3)]) E dL_minor_193 (fun _ hv => Con.inM2 hWN E.wf (c_L_between hWN hv)) gL_minor_L_between rfl rfl rfl (by decide +kernel) ⟨Nat.le_of_ble_eq_true rfl, Nat.le_of_ble_eq_true rfl⟩ rfl (Nat.le_of_ble_eq_true rfl) ⟨by show _ ≤ 2; omega, by show _ ≤ 71; omega⟩ (fun v16 => ?_)
            refine G.lstore (lv' := [(15, .long v16), (14, .int v14), (1, .int x1), (2, .int x2), (3, .ref (h 0)), (4, .ref (h 1)), (5, .ref (h 2)), (6, .ref (h 3)), (7, .ref q1), (8, .ref q2), (9, .int x9), (10, .int x10), (11, .int x11), (12, .int x12), (13, .int v12)]) E dL_minor_196 (by decide) rfl ?_
            refine G.aload E dL_minor_198 9 rfl ?_
            refine G.iload E dL_minor_200 12 rfl ?_
            refine G.ialdW (q0 := 13) (p0 := 13) (n := 7) τ0 E dL_minor_202 (wsM2_at13 _ _ _ _ _) (fun v17 => ?_)
            refine G.iload E dL_minor_203 1 rfl ?_
            refine G.jn (P := fun j => ∀ (v18 : Int64), G p l e (headSpec wsL_minor rm_L_minor).room s m args below meth c 17 cb sb D (wsM2 cy h q1 q2) ((adN h ++ [q1]) ++ [q2]) Q 222 [(1, .int x1), (2, .int x2), (3, .ref (h 0)), (4, .ref (h 1)), (5, .ref (h 2)), (6, .ref (h 3)), (7, .ref q1), (8, .ref q2), (9, .int x9), (10, .int x10), (11, .int x11), (12, .int x12), (13, .int v12), (15, .long v18)] [] (ν, τ0) (j v18)) ?_ (fun j222 hj222 => ?_)
            · intro v18
              refine G.aload E dL_minor_222 6 rfl ?_
              refine G.iload E dL_minor_224 9 rfl ?_
              refine G.iconst (v := 1) E dL_minor_226 (by decide) ?_
              refine G.iload E dL_minor_227 11 rfl ?_
              refine G.ishl E dL_minor_229 ?_
              refine G.ior E dL_minor_230 ?_
              refine G.dup2 E dL_minor_231 rfl rfl ?_
              refine G.laldW (q0 := 12) (p0 := 12) (n := 64) τ0 E dL_minor_232 (wsM2_at12 _ _ _ _ _) (fun v19 => ?_)
              refine G.iload E dL_minor_233 12 rfl ?_
              refine G.iconst (v := 2) E dL_minor_235 (by decide) ?_
              refine G.irem E dL_minor_236 (fun v20 => ?_)
              refine G.jn (P := fun j => ∀ (v21 : Int64), G p l e (headSpec wsL_minor rm_L_minor).room s m args below meth c 17 cb sb D (wsM2 cy h q1 q2) ((adN h ++ [q1]) ++ [q2]) Q 260 [(1, .int x1), (2, .int x2), (3, .ref (h 0)), (4, .ref (h 1)), (5, .ref (h 2)), (6, .ref (h 3)), (7, .ref q1), (8, .ref q2), (9, .int x9), (10, .int x10), (11, .int x11), (12, .int x12)] [.long v21, .long v19, .int (x10 ||| (1 <<< (x12 &&& 31))), .ref q1] (ν, τ0) (j v21)) ?_ (fun j260 hj260 => ?_)
              · intro v21
                refine G.ladd E dL_minor_260 ?_
                refine G.lastW (q0 := 12) (p0 := 12) (n := 64) τ0 (fun x => (ν, x)) E dL_minor_261 (wsM2_at12 _ _ _ _ _) (fun j => (wsM2_set12 _ _ _ _ _ _ _ j)) (fun s22 => ?_)
                refine G.widen (k1 := cb) (n1 := sb) (by omega) (by omega) ?_
                refine G.loc [0, 1, 2, 3, 4, 5, 6, 7, 8, 9, 10, 11] rfl ?_
                exact hj262 s22
              · refine G.if_ne (tgt := 251) E dL_minor_237 (by decide) ?_ ?_
                · refine G.lload E dL_minor_240 13 rfl ?_
                  refine G.aload E dL_minor_242 6 rfl ?_
                  refine G.iload E dL_minor_244 9 rfl ?_
                  refine G.laldW (q0 := 12) (p0 := 12) (n := 64) τ0 E dL_minor_246 (wsM2_at12 _ _ _ _ _) (fun v24 => ?_)
                  refine G.lmul E dL_minor_247 ?_
                  refine G.goto (tgt := 260) E dL_minor_248 (by decide) ?_
                  refine G.widen (k1 := cb) (n1 := sb) (by omega) (by omega) ?_
                  refine G.loc [0, 1, 2, 3, 4, 5, 6, 7, 8, 9, 10, 11] rfl ?_
                  exact hj260 (v18 * v24)
                · refine G.lload E dL_minor_251 13 rfl ?_
                  refine G.lneg E dL_minor_253 ?_
                  refine G.aload E dL_minor_254 6 rfl ?_
                  refine G.iload E dL_minor_256 9 rfl ?_
                  refine G.laldW (q0 := 12) (p0 := 12) (n := 64) τ0 E dL_minor_258 (wsM2_at12 _ _ _ _ _) (fun v23 => ?_)
                  refine G.lmul E dL_minor_259 ?_
                  refine G.widen (k1 := cb) (n1 := sb) (by omega) (by omega) ?_
                  refine G.loc [0, 1, 2, 3, 4, 5, 6, 7, 8, 9, 10, 11] rfl ?_
                  exact hj260 ((-v18) * v23)
            · refine G.icmp_eq (tgt := 222) E dL_minor_205 (by decide) ?_ ?_
              · refine G.widen (k1 := cb) (n1 := sb) (by omega) (by omega) ?_
                refine G.loc [2, 3, 4, 5, 6, 7, 8, 9, 10, 11, 12, 13, 14, 0] rfl ?_
                exact hj222 v16
              · refine G.aload E dL_minor_208 9 rfl ?_
                refine G.iload E dL_minor_210 13 rfl ?_
                refine G.ialdW (q0 := 13) (p0 := 13) (n := 7) τ0 E dL_minor_212 (wsM2_at13 _ _ _ _ _) (fun v25 => ?_)
                refine G.iload_n E dL_minor_213 2 rfl rfl ?_
                refine G.icmp_eq (tgt := 222) E dL_minor_214 (by decide) ?_ ?_
                · refine G.widen (k1 := cb) (n1 := sb) (by omega) (by omega) ?_
                  refine G.loc [2, 3, 4, 5, 6, 7, 8, 9, 10, 11, 12, 13, 14, 0] rfl ?_
                  exact hj222 v16
                · refine G.lload E dL_minor_217 0 rfl ?_
                  refine G.lneg E dL_minor_219 ?_
                  refine G.letL (fun v26 => ?_)
                  refine G.lstore (lv' := [(15, .long v26), (14, .int v14), (1, .int x1), (2, .int x2), (3, .ref (h 0)), (4, .ref (h 1)), (5, .ref (h 2)), (6, .ref (h 3)), (7, .ref q1), (8, .ref q2), (9, .int x9), (10, .int x10), (11, .int x11), (12, .int x12), (13, .int v12)]) E dL_minor_220 (by decide) rfl ?_
                  refine G.widen (k1 := cb) (n1 := sb) (by omega) (by omega) ?_
                  refine G.loc [2, 3, 4, 5, 6, 7, 8, 9, 10, 11, 12, 13, 14, 0] rfl ?_
                  exact hj222 v26
          · refine G.icmp_ne (tgt := 172) E dL_minor_165 (by decide) ?_ ?_
            · refine G.iload_n E dL_minor_168 1 rfl rfl ?_
              refine G.goto (tgt := 177) E dL_minor_169 (by decide) ?_
              refine G.widen (k1 := cb) (n1 := sb) (by omega) (by omega) ?_
              refine G.loc [0, 1, 2, 3, 4, 5, 6, 7, 8, 9, 10, 11, 12] rfl ?_
              exact hj177 x2
            · refine G.aload E dL_minor_172 7 rfl ?_
              refine G.iload E dL_minor_174 11 rfl ?_
              refine G.ialdW (q0 := 13) (p0 := 13) (n := 7) τ0 E dL_minor_176 (wsM2_at13 _ _ _ _ _) (fun v27 => ?_)
              refine G.widen (k1 := cb) (n1 := sb) (by omega) (by omega) ?_
              refine G.loc [0, 1, 2, 3, 4, 5, 6, 7, 8, 9, 10, 11, 12] rfl ?_
              exact hj177 v27
noncomputable def fl_L_minor_59 {ρ : Type} (N : Nat) (ν : Wd) (x1 : Int32) (x2 : Int32) (x9 : Int32) (K : Wd → Option (ρ)) : Nat → Int32 → Wd → Option (ρ)
  | 0, _, _ => none
  | n + 1, x10, τ0 =>
    if ((1 <<< (x9 &&& 31)) - 1) ≤ x10 then (
      K τ0)
    else (
      fl_L_minor_76 N ν τ0 x1 x2 x9 x10 (fun v8 =>
        fl_L_minor_104 N ν x1 x2 x9 x10 v8 (fun s28 =>
          fl_L_minor_59 N ν x1 x2 x9 K n (x10 + 1) s28) N 0 τ0) N 0 0)
set_option maxHeartbeats 4000000 in
set_option maxRecDepth 100000 in
theorem gl_L_minor_59 {ρ : Type} {Q : ρ → State → Prop} {N : Nat} {q1 : Nat} {q2 : Nat} {ν : Wd} {x1 : Int32} {x2 : Int32} {x9 : Int32} {cb sb : Nat} {K : Wd → Option (ρ)} (E : EV p s m args meth c cL_minor 17 RL wsL_minor (some .long) D cy (wsM2 cy h q1 q2) ((adN h ++ [q1]) ++ [q2])) (hWN : WF (wsN cy h) (adN h)) (E0 : EV p s m args meth c cL_minor 17 RL wsL_minor (some .long) D cy (wsN cy h) (adN h)) (hA : wA ((adN h ++ [q1]) ++ [q2]) s.heap.size = wA (adN h) s.heap.size) (hcb : cb ≤ 2) (hsb : sb ≤ 71) (hK : ∀ (τ0' : Wd), G p l e (headSpec wsL_minor rm_L_minor).room s m args below meth c 17 cb sb D (wsM2 cy h q1 q2) ((adN h ++ [q1]) ++ [q2]) Q 274 [(7, .ref q1), (9, .int x9)] [] (ν, τ0') (K τ0')) :
  ∀ (n : Nat), ∀ (x10 : Int32) (τ0 : Wd), G p l e (headSpec wsL_minor rm_L_minor).room s m args below meth c 17 cb sb D (wsM2 cy h q1 q2) ((adN h ++ [q1]) ++ [q2]) Q 59 [(1, .int x1), (2, .int x2), (3, .ref (h 0)), (4, .ref (h 1)), (5, .ref (h 2)), (6, .ref (h 3)), (7, .ref q1), (8, .ref q2), (9, .int x9), (10, .int x10)] [] (ν, τ0) (fl_L_minor_59 N ν x1 x2 x9 K n x10 τ0) := by
  intro n
  induction n with
  | zero => intros; exact G.no
  | succ n ih =>
    intro x10 τ0
    rw [fl_L_minor_59]
    refine G.iload E dL_minor_59 9 rfl ?_
    refine G.iconst (v := 1) E dL_minor_61 (by decide) ?_
    refine G.iload E dL_minor_62 8 rfl ?_
    refine G.ishl E dL_minor_64 ?_
    refine G.iconst (v := 1) E dL_minor_65 (by decide) ?_
    refine G.isub E dL_minor_66 ?_
    refine G.icmp_ge (tgt := 274) E dL_minor_67 (by decide) ?_ ?_
    · refine G.widen (k1 := cb) (n1 := sb) (by omega) (by omega) ?_
      refine G.loc [6, 8] rfl ?_
      exact hK τ0
    · refine G.iconst (v := 0) E dL_minor_70 (by decide) ?_
      refine G.istore (lv' := [(11, .int 0), (1, .int x1), (2, .int x2), (3, .ref (h 0)), (4, .ref (h 1)), (5, .ref (h 2)), (6, .ref (h 3)), (7, .ref q1), (8, .ref q2), (9, .int x9), (10, .int x10)]) E dL_minor_71 (by decide) rfl ?_
      refine G.iconst (v := 0) E dL_minor_73 (by decide) ?_
      refine G.istore (lv' := [(12, .int 0), (11, .int 0), (1, .int x1), (2, .int x2), (3, .ref (h 0)), (4, .ref (h 1)), (5, .ref (h 2)), (6, .ref (h 3)), (7, .ref q1), (8, .ref q2), (9, .int x9), (10, .int x10)]) E dL_minor_74 (by decide) rfl ?_
      refine G.widen (k1 := cb) (n1 := sb) (by omega) (by omega) ?_
      refine G.loc [2, 3, 4, 5, 6, 7, 8, 9, 10, 11, 1, 0] rfl ?_
      refine gl_L_minor_76 (cb := cb) (sb := sb) E hWN E0 hA (by omega) (by omega) (fun v8 => ?_) N _ _
      refine G.iconst (v := 0) E dL_minor_101 (by decide) ?_
      refine G.istore (lv' := [(12, .int 0), (1, .int x1), (2, .int x2), (3, .ref (h 0)), (4, .ref (h 1)), (5, .ref (h 2)), (6, .ref (h 3)), (7, .ref q1), (8, .ref q2), (9, .int x9), (10, .int x10), (11, .int v8)]) E dL_minor_102 (by decide) rfl ?_
      refine G.widen (k1 := cb) (n1 := sb) (by omega) (by omega) ?_
      refine G.loc [1, 2, 3, 4, 5, 6, 7, 8, 9, 10, 11, 0] rfl ?_
      refine gl_L_minor_104 (cb := cb) (sb := sb) E hWN E0 hA (by omega) (by omega) (fun s28 => ?_) N _ _
      refine G.iinc (v := x10 + 1) (lv' := [(10, .int (x10 + 1)), (1, .int x1), (2, .int x2), (3, .ref (h 0)), (4, .ref (h 1)), (5, .ref (h 2)), (6, .ref (h 3)), (7, .ref q1), (8, .ref q2), (9, .int x9)]) E dL_minor_268 9 rfl rfl (by decide) rfl ?_
      refine G.goto (tgt := 59) E dL_minor_271 (by decide) ?_
      refine G.widen (k1 := cb) (n1 := sb) (by omega) (by omega) ?_
      refine G.loc [1, 2, 3, 4, 5, 6, 7, 8, 9, 0] rfl ?_
      exact ih (x10 + 1) s28
noncomputable def f_L_minor (N : Nat) (ν : Wd) (a0 : Int32) (a1 : Int32) (a2 : Int32) : Option (Int64) :=
  fl_L_minor_18 N ν a0 a1 a2 (fun v4 s5 =>
    aL s5 12 64 0 1 fun s6 =>
    fl_L_minor_59 N ν a1 a2 v4 (fun s29 =>
      rL s29 12 64 ((1 <<< (v4 &&& 31)) - 1) fun v30 =>
      some v30) N 0 s6) N 0 0 z0
set_option maxHeartbeats 4000000 in
set_option maxRecDepth 100000 in
theorem c_L_minor {l : Launch} {D : va_G} {cy : Nat → ClassId} {h : Nat → Nat} {N : Nat} {ν : Wd} {a0 : Int32} {a1 : Int32} {a2 : Int32} {r : Int64} (hW : WF (wsN cy h) (adN h)) (hr : f_L_minor N ν a0 a1 a2 = some r) : Con l D cy (wsN cy h) (adN h) yL_minor wsL_minor rm_L_minor 2 71 [.int a0, .int a1, .int a2, .ref (h 0), .ref (h 1), .ref (h 2), .ref (h 3)] (some (.long r)) ν ν := by
  refine Con.ofM (ρ := Int64) (lv0 := [(0, .int a0), (1, .int a1), (2, .int a2), (3, .ref (h 0)), (4, .ref (h 1)), (5, .ref (h 2)), (6, .ref (h 3))]) (σ := ν) (mc := 2) (ms := 71) (fun r : Int64 => some (.long r)) (fun _ => ν) (by decide) rfl rfl (Nat.le_of_ble_eq_true rfl) rfl hW hr (fun p e s m args below meth c E => ?_)
  unfold f_L_minor
  refine G.bipush (v := 64) E dL_minor_0 (by decide) ?_
  have E0 := E
  have hWN := E.wf
  refine G.newL (N' := 64) (fun q => wsM1 cy h q) (ν, z0) E dL_minor_2 (List.mem_of_getElem? (i := 1) rfl) (by decide) (by decide) (by decide) ⟨by show _ ≤ 2; omega, by show _ ≤ 71; omega⟩ (fun _ => rfl) (fun q => wfM1 cy h q) (fun q1 E1 hA1 => ?_)
  have E := E1
  have hA := hA1
  refine G.astore (lv' := [(7, .ref q1), (0, .int a0), (1, .int a1), (2, .int a2), (3, .ref (h 0)), (4, .ref (h 1)), (5, .ref (h 2)), (6, .ref (h 3))]) E dL_minor_4 (by decide) rfl ?_
  refine G.bipush (v := 7) E dL_minor_6 (by decide) ?_
  refine G.newI (N' := 7) (fun q => wsM2 cy h q1 q) (ν, z0) E dL_minor_8 (List.mem_of_getElem? (i := 2) rfl) (by decide) (by decide) (by decide) ⟨by show _ ≤ 2; omega, by show _ ≤ 71; omega⟩ (fun _ => rfl) (fun q => wfM2 cy h q1 q) (fun q2 E2 hA2 => ?_)
  have E := E2
  have hA := hA2.trans hA1
  refine G.astore (lv' := [(8, .ref q2), (7, .ref q1), (0, .int a0), (1, .int a1), (2, .int a2), (3, .ref (h 0)), (4, .ref (h 1)), (5, .ref (h 2)), (6, .ref (h 3))]) E dL_minor_10 (by decide) rfl ?_
  refine G.iconst (v := 0) E dL_minor_12 (by decide) ?_
  refine G.istore (lv' := [(9, .int 0), (8, .ref q2), (7, .ref q1), (0, .int a0), (1, .int a1), (2, .int a2), (3, .ref (h 0)), (4, .ref (h 1)), (5, .ref (h 2)), (6, .ref (h 3))]) E dL_minor_13 (by decide) rfl ?_
  refine G.iconst (v := 0) E dL_minor_15 (by decide) ?_
  refine G.istore (lv' := [(10, .int 0), (9, .int 0), (8, .ref q2), (7, .ref q1), (0, .int a0), (1, .int a1), (2, .int a2), (3, .ref (h 0)), (4, .ref (h 1)), (5, .ref (h 2)), (6, .ref (h 3))]) E dL_minor_16 (by decide) rfl ?_
  refine G.widen (k1 := 2) (n1 := 71) (by omega) (by omega) ?_
  refine G.loc [4, 5, 6, 7, 8, 9, 10, 3, 2, 1, 0] rfl ?_
  refine gl_L_minor_18 (cb := 2) (sb := 71) E hWN E0 hA (by omega) (by omega) (fun v4 s5 => ?_) N _ _ _
  refine G.aload E dL_minor_51 6 rfl ?_
  refine G.iconst (v := 0) E dL_minor_53 (by decide) ?_
  refine G.lconst (v := 1) E dL_minor_54 (by decide) ?_
  refine G.lastW (q0 := 12) (p0 := 12) (n := 64) s5 (fun x => (ν, x)) E dL_minor_55 (wsM2_at12 _ _ _ _ _) (fun j => (wsM2_set12 _ _ _ _ _ _ _ j)) (fun s6 => ?_)
  refine G.iconst (v := 0) E dL_minor_56 (by decide) ?_
  refine G.istore (lv' := [(10, .int 0), (1, .int a1), (2, .int a2), (3, .ref (h 0)), (4, .ref (h 1)), (5, .ref (h 2)), (6, .ref (h 3)), (7, .ref q1), (8, .ref q2), (9, .int v4)]) E dL_minor_57 (by decide) rfl ?_
  refine G.widen (k1 := 2) (n1 := 71) (by omega) (by omega) ?_
  refine G.loc [1, 2, 3, 4, 5, 6, 7, 8, 9, 0] rfl ?_
  refine gl_L_minor_59 (cb := 2) (sb := 71) E hWN E0 hA (by omega) (by omega) (fun s29 => ?_) N _ _
  refine G.aload E dL_minor_274 0 rfl ?_
  refine G.iconst (v := 1) E dL_minor_276 (by decide) ?_
  refine G.iload E dL_minor_277 1 rfl ?_
  refine G.ishl E dL_minor_279 ?_
  refine G.iconst (v := 1) E dL_minor_280 (by decide) ?_
  refine G.isub E dL_minor_281 ?_
  refine G.laldW (q0 := 12) (p0 := 12) (n := 64) s29 E dL_minor_282 (wsM2_at12 _ _ _ _ _) (fun v30 => ?_)
  refine G.widen (k1 := 2) (n1 := 71) (by omega) (by omega) ?_
  refine G.drop (ws := wsN cy h) (ad := adN h) (σ := ν) (fun H hp => vP_left (A := wsN cy h ν) hp) hA ?_
  exact G.lret E0 dL_minor_283 rfl rfl
abbrev rm_L_rest : Room := { frames := 2, cells := 2, slots := 71, locals := 65 }
noncomputable def f_L_rest (N : Nat) (ν : Wd) : Option (Int64) :=
  bP (f_L_inner N ν) fun v1 =>
  bP (f_L_minor N ν v1 (-1) (-1)) fun v2 =>
  some v2
set_option maxHeartbeats 4000000 in
set_option maxRecDepth 100000 in
theorem c_L_rest {l : Launch} {D : va_G} {cy : Nat → ClassId} {h : Nat → Nat} {N : Nat} {ν : Wd} {r : Int64} (hW : WF (wsN cy h) (adN h)) (hr : f_L_rest N ν = some r) : Con l D cy (wsN cy h) (adN h) yL_rest wsL_rest rm_L_rest 2 71 [.ref (h 0), .ref (h 1), .ref (h 2), .ref (h 3)] (some (.long r)) ν ν := by
  refine Con.ofM (ρ := Int64) (lv0 := [(0, .ref (h 0)), (1, .ref (h 1)), (2, .ref (h 2)), (3, .ref (h 3))]) (σ := ν) (mc := 2) (ms := 71) (fun r : Int64 => some (.long r)) (fun _ => ν) (by decide) rfl rfl (Nat.le_of_ble_eq_true rfl) rfl hW hr (fun p e s m args below meth c E => ?_)
  unfold f_L_rest
  refine G.aload_n E dL_rest_0 0 rfl rfl ?_
  refine G.callSi (mc := 0) (ms := 0) (rm := rm_L_inner) (n := 1) (As := [.ref (h 0)]) E dL_rest_1 (fun _ hv => c_L_inner E.wf hv) gL_rest_L_inner rfl rfl rfl (by decide +kernel) ⟨Nat.le_of_ble_eq_true rfl, Nat.le_of_ble_eq_true rfl⟩ rfl (Nat.le_of_ble_eq_true rfl) ⟨by show _ ≤ 2; omega, by show _ ≤ 71; omega⟩ (fun v1 => ?_)
  refine G.iconst (v := (-1)) E dL_rest_4 (by decide) ?_
  refine G.iconst (v := (-1)) E dL_rest_5 (by decide) ?_
  refine G.aload_n E dL_rest_6 0 rfl rfl ?_
  refine G.aload_n E dL_rest_7 1 rfl rfl ?_
  refine G.aload_n E dL_rest_8 2 rfl rfl ?_
  refine G.aload_n E dL_rest_9 3 rfl rfl ?_
  refine G.callSl (mc := 2) (ms := 71) (rm := rm_L_minor) (n := 7) (As := [.int v1, .int (-1), .int (-1), .ref (h 0), .ref (h 1), .ref (h 2), .ref (h 3)]) E dL_rest_10 (fun _ hv => c_L_minor E.wf hv) gL_rest_L_minor rfl rfl rfl (by decide +kernel) ⟨Nat.le_of_ble_eq_true rfl, Nat.le_of_ble_eq_true rfl⟩ rfl (Nat.le_of_ble_eq_true rfl) ⟨by show _ ≤ 2; omega, by show _ ≤ 71; omega⟩ (fun v2 => ?_)
  refine G.widen (k1 := 2) (n1 := 71) (by omega) (by omega) ?_
  exact G.lret E dL_rest_13 rfl rfl
abbrev rm_L_pair : Room := { frames := 3, cells := 16, slots := 568, locals := 88 }
noncomputable def fl_L_pair_26 {ρ : Type} (N : Nat) (ν : Wd) (x0 : Int32) (x1 : Int32) (K : Int64 → Option (ρ)) : Nat → Int64 → Int32 → Option (ρ)
  | 0, _, _ => none
  | n + 1, x6, x8 =>
    if 7 ≤ x8 then (
      K x6)
    else (
      ck n (
        bP (f_L_inner N ν) fun v4 =>
        jn (fun (v5 : Int64) => ((
          jn (fun (v6 : Int64) => ((
            fl_L_pair_26 N ν x0 x1 K n v6 (x8 + 1)) : Option (ρ))) fun j94 =>
          if (lg_cmp v5 0) ≤ 0 then (
            j94 x6)
          else (
            bP (f_L_inner N ν) fun v7 =>
            bP (f_L_minor N ν v7 x8 x1) fun v8 =>
            lL (x6 + (v5 * v8)) fun v9 =>
            j94 v9)) : Option (ρ))) fun j61 =>
        if ((v4 >>> (x8 &&& 31)) &&& 1) = 0 then (
          j61 0)
        else (
          bP (f_L_between N ν x0 x8) fun v10 =>
          j61 v10)))
set_option maxHeartbeats 4000000 in
set_option maxRecDepth 100000 in
theorem gl_L_pair_26 {ρ : Type} {Q : ρ → State → Prop} {N : Nat} {ν : Wd} {x0 : Int32} {x1 : Int32} {cX sX : Nat} {K : Int64 → Option (ρ)} (E : EV p s m args meth c cL_pair 11 RL wsL_pair (some .long) D cy (wsN cy h) (adN h)) (hcX : cX ≤ 16) (hsX : sX ≤ 568) (hK : ∀ (x6' : Int64), G p l e (headSpec wsL_pair rm_L_pair).room s m args below meth c 11 cX sX D (wsN cy h) (adN h) Q 100 [(6, .long (x6'))] [] ν (K x6')) :
  ∀ (n cb sb : Nat), cb + 2 * (n - 1) ≤ cX → sb + 71 * (n - 1) ≤ sX → ∀ (x6 : Int64) (x8 : Int32), G p l e (headSpec wsL_pair rm_L_pair).room s m args below meth c 11 cb sb D (wsN cy h) (adN h) Q 26 [(0, .int x0), (1, .int x1), (2, .ref (h 0)), (3, .ref (h 1)), (4, .ref (h 2)), (5, .ref (h 3)), (6, .long x6), (8, .int x8)] [] ν (fl_L_pair_26 N ν x0 x1 K n x6 x8) := by
  intro n
  induction n with
  | zero => intros; exact G.no
  | succ n ih =>
    intro cb sb hcb hsb x6 x8
    have hcb : cb + 2 * n ≤ cX := hcb
    have hsb : sb + 71 * n ≤ sX := hsb
    rw [fl_L_pair_26]
    refine G.iload E dL_pair_26 7 rfl ?_
    refine G.bipush (v := 7) E dL_pair_28 (by decide) ?_
    refine G.icmp_ge (tgt := 100) E dL_pair_30 (by decide) ?_ ?_
    · refine G.widen (k1 := cX) (n1 := sX) (by omega) (by omega) ?_
      refine G.loc [6] rfl ?_
      exact hK x6
    · refine G.ckk (fun hn => ?_)
      refine G.aload_n E dL_pair_33 2 rfl rfl ?_
      refine G.callSi (mc := 0) (ms := 0) (rm := rm_L_inner) (n := 1) (As := [.ref (h 0)]) E dL_pair_34 (fun _ hv => c_L_inner E.wf hv) gL_pair_L_inner rfl rfl rfl (by decide +kernel) ⟨Nat.le_of_ble_eq_true rfl, Nat.le_of_ble_eq_true rfl⟩ rfl (Nat.le_of_ble_eq_true rfl) ⟨by show _ ≤ 16; omega, by show _ ≤ 568; omega⟩ (fun v4 => ?_)
      refine G.iload E dL_pair_37 7 rfl ?_
      refine G.ishr E dL_pair_39 ?_
      refine G.iconst (v := 1) E dL_pair_40 (by decide) ?_
      refine G.iand E dL_pair_41 ?_
      refine G.jn (P := fun j => ∀ (v5 : Int64), G p l e (headSpec wsL_pair rm_L_pair).room s m args below meth c 11 cb sb D (wsN cy h) (adN h) Q 61 [(0, .int x0), (1, .int x1), (2, .ref (h 0)), (3, .ref (h 1)), (4, .ref (h 2)), (5, .ref (h 3)), (6, .long x6), (8, .int x8)] [.long v5] ν (j v5)) ?_ (fun j61 hj61 => ?_)
      · intro v5
        refine G.lstore (lv' := [(9, .long v5), (0, .int x0), (1, .int x1), (2, .ref (h 0)), (3, .ref (h 1)), (4, .ref (h 2)), (5, .ref (h 3)), (6, .long x6), (8, .int x8)]) E dL_pair_61 (by decide) rfl ?_
        refine G.lload E dL_pair_63 0 rfl ?_
        refine G.lconst (v := 0) E dL_pair_65 (by decide) ?_
        refine G.lcmp E dL_pair_66 ?_
        refine G.jn (P := fun j => ∀ (v6 : Int64), G p l e (headSpec wsL_pair rm_L_pair).room s m args below meth c 11 (cb + 2) (sb + 71) D (wsN cy h) (adN h) Q 94 [(0, .int x0), (1, .int x1), (2, .ref (h 0)), (3, .ref (h 1)), (4, .ref (h 2)), (5, .ref (h 3)), (6, .long v6), (8, .int x8)] [] ν (j v6)) ?_ (fun j94 hj94 => ?_)
        · intro v6
          refine G.iinc (v := x8 + 1) (lv' := [(8, .int (x8 + 1)), (0, .int x0), (1, .int x1), (2, .ref (h 0)), (3, .ref (h 1)), (4, .ref (h 2)), (5, .ref (h 3)), (6, .long v6)]) E dL_pair_94 7 rfl rfl (by decide) rfl ?_
          refine G.goto (tgt := 26) E dL_pair_97 (by decide) ?_
          refine G.widen (k1 := cb + 2) (n1 := sb + 71) (by omega) (by omega) ?_
          refine G.loc [1, 2, 3, 4, 5, 6, 7, 0] rfl ?_
          exact ih (cb + 2) (sb + 71) (by omega) (by omega) v6 (x8 + 1)
        · refine G.if_le (tgt := 94) E dL_pair_67 (by decide) ?_ ?_
          · refine G.widen (k1 := cb + 2) (n1 := sb + 71) (by omega) (by omega) ?_
            refine G.loc [1, 2, 3, 4, 5, 6, 7, 8] rfl ?_
            exact hj94 x6
          · refine G.lload E dL_pair_70 7 rfl ?_
            refine G.lload E dL_pair_72 0 rfl ?_
            refine G.aload_n E dL_pair_74 3 rfl rfl ?_
            refine G.callSi (mc := 0) (ms := 0) (rm := rm_L_inner) (n := 1) (As := [.ref (h 0)]) E dL_pair_75 (fun _ hv => c_L_inner E.wf hv) gL_pair_L_inner rfl rfl rfl (by decide +kernel) ⟨Nat.le_of_ble_eq_true rfl, Nat.le_of_ble_eq_true rfl⟩ rfl (Nat.le_of_ble_eq_true rfl) ⟨by show _ ≤ 16; omega, by show _ ≤ 568; omega⟩ (fun v7 => ?_)
            refine G.iload E dL_pair_78 8 rfl ?_
            refine G.iload_n E dL_pair_80 2 rfl rfl ?_
            refine G.aload_n E dL_pair_81 3 rfl rfl ?_
            refine G.aload_n E dL_pair_82 4 rfl rfl ?_
            refine G.aload E dL_pair_83 5 rfl ?_
            refine G.aload E dL_pair_85 6 rfl ?_
            refine G.callSl (mc := 2) (ms := 71) (rm := rm_L_minor) (n := 7) (As := [.int v7, .int x8, .int x1, .ref (h 0), .ref (h 1), .ref (h 2), .ref (h 3)]) E dL_pair_87 (fun _ hv => c_L_minor E.wf hv) gL_pair_L_minor rfl rfl rfl (by decide +kernel) ⟨Nat.le_of_ble_eq_true rfl, Nat.le_of_ble_eq_true rfl⟩ rfl (Nat.le_of_ble_eq_true rfl) ⟨by show _ ≤ 16; omega, by show _ ≤ 568; omega⟩ (fun v8 => ?_)
            refine G.lmul E dL_pair_90 ?_
            refine G.ladd E dL_pair_91 ?_
            refine G.letL (fun v9 => ?_)
            refine G.lstore (lv' := [(6, .long v9), (9, .long v5), (0, .int x0), (1, .int x1), (2, .ref (h 0)), (3, .ref (h 1)), (4, .ref (h 2)), (5, .ref (h 3)), (8, .int x8)]) E dL_pair_92 (by decide) rfl ?_
            refine G.widen (k1 := cb + 2) (n1 := sb + 71) (by omega) (by omega) ?_
            refine G.loc [2, 3, 4, 5, 6, 7, 0, 8] rfl ?_
            exact hj94 v9
      · refine G.if_ne (tgt := 49) E dL_pair_42 (by decide) ?_ ?_
        · refine G.lconst (v := 0) E dL_pair_45 (by decide) ?_
          refine G.goto (tgt := 61) E dL_pair_46 (by decide) ?_
          refine G.widen (k1 := cb) (n1 := sb) (by omega) (by omega) ?_
          refine G.loc [0, 1, 2, 3, 4, 5, 6, 7] rfl ?_
          exact hj61 0
        · refine G.iload_n E dL_pair_49 0 rfl rfl ?_
          refine G.iload E dL_pair_50 7 rfl ?_
          refine G.aload_n E dL_pair_52 2 rfl rfl ?_
          refine G.aload_n E dL_pair_53 3 rfl rfl ?_
          refine G.aload E dL_pair_54 4 rfl ?_
          refine G.aload E dL_pair_56 5 rfl ?_
          refine G.callSl (mc := 0) (ms := 0) (rm := rm_L_between) (n := 6) (As := [.int x0, .int x8, .ref (h 0), .ref (h 1), .ref (h 2), .ref (h 3)]) E dL_pair_58 (fun _ hv => c_L_between E.wf hv) gL_pair_L_between rfl rfl rfl (by decide +kernel) ⟨Nat.le_of_ble_eq_true rfl, Nat.le_of_ble_eq_true rfl⟩ rfl (Nat.le_of_ble_eq_true rfl) ⟨by show _ ≤ 16; omega, by show _ ≤ 568; omega⟩ (fun v10 => ?_)
          refine G.widen (k1 := cb) (n1 := sb) (by omega) (by omega) ?_
          refine G.loc [0, 1, 2, 3, 4, 5, 6, 7] rfl ?_
          exact hj61 v10
noncomputable def f_L_pair (N : Nat) (ν : Wd) (a0 : Int32) (a1 : Int32) : Option (Int64) :=
  bP (f_L_between N ν a0 a1) fun v1 =>
  bP (f_L_rest N ν) fun v2 =>
  lL (v1 * v2) fun v3 =>
  fl_L_pair_26 N ν a0 a1 (fun v11 =>
    some v11) 8 v3 0
set_option maxHeartbeats 4000000 in
set_option maxRecDepth 100000 in
theorem c_L_pair {l : Launch} {D : va_G} {cy : Nat → ClassId} {h : Nat → Nat} {N : Nat} {ν : Wd} {a0 : Int32} {a1 : Int32} {r : Int64} (hW : WF (wsN cy h) (adN h)) (hr : f_L_pair N ν a0 a1 = some r) : Con l D cy (wsN cy h) (adN h) yL_pair wsL_pair rm_L_pair 16 568 [.int a0, .int a1, .ref (h 0), .ref (h 1), .ref (h 2), .ref (h 3)] (some (.long r)) ν ν := by
  refine Con.ofM (ρ := Int64) (lv0 := [(0, .int a0), (1, .int a1), (2, .ref (h 0)), (3, .ref (h 1)), (4, .ref (h 2)), (5, .ref (h 3))]) (σ := ν) (mc := 16) (ms := 568) (fun r : Int64 => some (.long r)) (fun _ => ν) (by decide) rfl rfl (Nat.le_of_ble_eq_true rfl) rfl hW hr (fun p e s m args below meth c E => ?_)
  unfold f_L_pair
  refine G.iload_n E dL_pair_0 0 rfl rfl ?_
  refine G.iload_n E dL_pair_1 1 rfl rfl ?_
  refine G.aload_n E dL_pair_2 2 rfl rfl ?_
  refine G.aload_n E dL_pair_3 3 rfl rfl ?_
  refine G.aload E dL_pair_4 4 rfl ?_
  refine G.aload E dL_pair_6 5 rfl ?_
  refine G.callSl (mc := 0) (ms := 0) (rm := rm_L_between) (n := 6) (As := [.int a0, .int a1, .ref (h 0), .ref (h 1), .ref (h 2), .ref (h 3)]) E dL_pair_8 (fun _ hv => c_L_between E.wf hv) gL_pair_L_between rfl rfl rfl (by decide +kernel) ⟨Nat.le_of_ble_eq_true rfl, Nat.le_of_ble_eq_true rfl⟩ rfl (Nat.le_of_ble_eq_true rfl) ⟨by show _ ≤ 16; omega, by show _ ≤ 568; omega⟩ (fun v1 => ?_)
  refine G.aload_n E dL_pair_11 2 rfl rfl ?_
  refine G.aload_n E dL_pair_12 3 rfl rfl ?_
  refine G.aload E dL_pair_13 4 rfl ?_
  refine G.aload E dL_pair_15 5 rfl ?_
  refine G.callSl (mc := 2) (ms := 71) (rm := rm_L_rest) (n := 4) (As := [.ref (h 0), .ref (h 1), .ref (h 2), .ref (h 3)]) E dL_pair_17 (fun _ hv => c_L_rest E.wf hv) gL_pair_L_rest rfl rfl rfl (by decide +kernel) ⟨Nat.le_of_ble_eq_true rfl, Nat.le_of_ble_eq_true rfl⟩ rfl (Nat.le_of_ble_eq_true rfl) ⟨by show _ ≤ 16; omega, by show _ ≤ 568; omega⟩ (fun v2 => ?_)
  refine G.lmul E dL_pair_20 ?_
  refine G.letL (fun v3 => ?_)
  refine G.lstore (lv' := [(6, .long v3), (0, .int a0), (1, .int a1), (2, .ref (h 0)), (3, .ref (h 1)), (4, .ref (h 2)), (5, .ref (h 3))]) E dL_pair_21 (by decide) rfl ?_
  refine G.iconst (v := 0) E dL_pair_23 (by decide) ?_
  refine G.istore (lv' := [(8, .int 0), (6, .long v3), (0, .int a0), (1, .int a1), (2, .ref (h 0)), (3, .ref (h 1)), (4, .ref (h 2)), (5, .ref (h 3))]) E dL_pair_24 (by decide) rfl ?_
  refine G.widen (k1 := 2) (n1 := 71) (by omega) (by omega) ?_
  refine G.loc [2, 3, 4, 5, 6, 7, 1, 0] rfl ?_
  refine gl_L_pair_26 (cX := 16) (sX := 568) E (by omega) (by omega) (fun v11 => ?_) 8 2 71 (by omega) (by omega) _ _
  refine G.lload E dL_pair_100 0 rfl ?_
  refine G.widen (k1 := 16) (n1 := 568) (by omega) (by omega) ?_
  exact G.lret E dL_pair_102 rfl rfl
abbrev rm_L_common : Room := { frames := 0, cells := 0, slots := 0, locals := 0 }
noncomputable def fl_L_common_17 {ρ : Type} (N : Nat) (K : Int64 → Option (ρ)) : Nat → Int64 → Int64 → Option (ρ)
  | 0, _, _ => none
  | n + 1, x4, x6 =>
    if (lg_cmp x4 0) ≤ 0 then (
      K x6)
    else (
      mL x6 x4 fun v2 =>
      fl_L_common_17 N K n v2 x4)
set_option maxHeartbeats 4000000 in
set_option maxRecDepth 100000 in
theorem gl_L_common_17 {ρ : Type} {Q : ρ → State → Prop} {N : Nat} {ν : Wd} {cb sb : Nat} {K : Int64 → Option (ρ)} (E : EV p s m args meth c cL_common 10 RL wsL_common (some .long) D cy (wsN cy h) (adN h)) (hcb : cb ≤ 0) (hsb : sb ≤ 0) (hK : ∀ (x6' : Int64), G p l e (headSpec wsL_common rm_L_common).room s m args below meth c 10 cb sb D (wsN cy h) (adN h) Q 42 [(6, .long (x6'))] [] ν (K x6')) :
  ∀ (n : Nat), ∀ (x4 : Int64) (x6 : Int64), G p l e (headSpec wsL_common rm_L_common).room s m args below meth c 10 cb sb D (wsN cy h) (adN h) Q 17 [(4, .long x4), (6, .long x6)] [] ν (fl_L_common_17 N K n x4 x6) := by
  intro n
  induction n with
  | zero => intros; exact G.no
  | succ n ih =>
    intro x4 x6
    rw [fl_L_common_17]
    refine G.lload E dL_common_17 0 rfl ?_
    refine G.lconst (v := 0) E dL_common_19 (by decide) ?_
    refine G.lcmp E dL_common_20 ?_
    refine G.if_le (tgt := 42) E dL_common_21 (by decide) ?_ ?_
    · refine G.widen (k1 := cb) (n1 := sb) (by omega) (by omega) ?_
      refine G.loc [1] rfl ?_
      exact hK x6
    · refine G.lload E dL_common_24 1 rfl ?_
      refine G.lload E dL_common_26 0 rfl ?_
      refine G.lrem E dL_common_28 (fun v2 => ?_)
      refine G.lstore (lv' := [(8, .long v2), (4, .long x4), (6, .long x6)]) E dL_common_29 (by decide) rfl ?_
      refine G.lload E dL_common_31 1 rfl ?_
      refine G.lstore (lv' := [(6, .long x4), (8, .long v2), (4, .long x4)]) E dL_common_33 (by decide) rfl ?_
      refine G.lload E dL_common_35 1 rfl ?_
      refine G.lstore (lv' := [(4, .long v2), (6, .long x4), (8, .long v2)]) E dL_common_37 (by decide) rfl ?_
      refine G.goto (tgt := 17) E dL_common_39 (by decide) ?_
      refine G.widen (k1 := cb) (n1 := sb) (by omega) (by omega) ?_
      refine G.loc [0, 1] rfl ?_
      exact ih v2 x4
noncomputable def f_L_common (N : Nat) (a0 : Int64) (a1 : Int64) : Option (Int64) :=
  jn (fun (v1 : Int64) => ((
    fl_L_common_17 N (fun v3 =>
      some v3) N v1 a1) : Option (Int64))) fun j12 =>
  if 0 ≤ (lg_cmp a0 0) then (
    j12 a0)
  else (
    j12 (-a0))
set_option maxHeartbeats 4000000 in
set_option maxRecDepth 100000 in
theorem c_L_common {l : Launch} {D : va_G} {cy : Nat → ClassId} {h : Nat → Nat} {N : Nat} {ν : Wd} {a0 : Int64} {a1 : Int64} {r : Int64} (hW : WF (wsN cy h) (adN h)) (hr : f_L_common N a0 a1 = some r) : Con l D cy (wsN cy h) (adN h) yL_common wsL_common rm_L_common 0 0 [.long a0, .long a1] (some (.long r)) ν ν := by
  refine Con.ofM (ρ := Int64) (lv0 := [(0, .long a0), (2, .long a1)]) (σ := ν) (mc := 0) (ms := 0) (fun r : Int64 => some (.long r)) (fun _ => ν) (by decide) rfl rfl (Nat.le_of_ble_eq_true rfl) rfl hW hr (fun p e s m args below meth c E => ?_)
  unfold f_L_common
  refine G.lload_n E dL_common_0 0 rfl rfl ?_
  refine G.lconst (v := 0) E dL_common_1 (by decide) ?_
  refine G.lcmp E dL_common_2 ?_
  refine G.jn (P := fun j => ∀ (v1 : Int64), G p l e (headSpec wsL_common rm_L_common).room s m args below meth c 10 0 0 D (wsN cy h) (adN h) (QM D (wsN cy h) (adN h) below args s 0 0 (fun r : Int64 => some (.long r)) (fun _ => ν)) 12 [(2, .long a1)] [.long v1] ν (j v1)) ?_ (fun j12 hj12 => ?_)
  · intro v1
    refine G.lstore (lv' := [(4, .long v1), (2, .long a1)]) E dL_common_12 (by decide) rfl ?_
    refine G.lload_n E dL_common_14 1 rfl rfl ?_
    refine G.lstore (lv' := [(6, .long a1), (4, .long v1), (2, .long a1)]) E dL_common_15 (by decide) rfl ?_
    refine G.widen (k1 := 0) (n1 := 0) (by omega) (by omega) ?_
    refine G.loc [1, 0] rfl ?_
    refine gl_L_common_17 (cb := 0) (sb := 0) E (by omega) (by omega) (fun v3 => ?_) N _ _
    refine G.lload E dL_common_42 0 rfl ?_
    refine G.widen (k1 := 0) (n1 := 0) (by omega) (by omega) ?_
    exact G.lret E dL_common_44 rfl rfl
  · refine G.if_ge (tgt := 11) E dL_common_3 (by decide) ?_ ?_
    · refine G.lload_n E dL_common_11 0 rfl rfl ?_
      refine G.widen (k1 := 0) (n1 := 0) (by omega) (by omega) ?_
      refine G.loc [1] rfl ?_
      exact hj12 a0
    · refine G.lload_n E dL_common_6 0 rfl rfl ?_
      refine G.lneg E dL_common_7 ?_
      refine G.goto (tgt := 12) E dL_common_8 (by decide) ?_
      refine G.widen (k1 := 0) (n1 := 0) (by omega) (by omega) ?_
      refine G.loc [1] rfl ?_
      exact hj12 (-a0)
abbrev rm_L_is : Room := { frames := 1, cells := 0, slots := 0, locals := 29 }
noncomputable def f_L_is (N : Nat) (a0 : Int64) (a1 : Int64) (a2 : Int64) (a3 : Int64) : Option (Int32) :=
  if (lg_cmp a3 0) = 0 then (
    if (lg_cmp a0 0) = 0 then (
      if (lg_cmp a1 0) = 0 then (
        some 1)
      else (
        some 0))
    else (
      some 0))
  else (
    bP (f_L_common N a2 a3) fun v1 =>
    dL a2 v1 fun v2 =>
    if (lg_cmp a0 v2) = 0 then (
      dL a3 v1 fun v3 =>
      if (lg_cmp a1 v3) = 0 then (
        some 1)
      else (
        some 0))
    else (
      some 0))
set_option maxHeartbeats 4000000 in
set_option maxRecDepth 100000 in
theorem c_L_is {l : Launch} {D : va_G} {cy : Nat → ClassId} {h : Nat → Nat} {N : Nat} {ν : Wd} {a0 : Int64} {a1 : Int64} {a2 : Int64} {a3 : Int64} {r : Int32} (hW : WF (wsN cy h) (adN h)) (hr : f_L_is N a0 a1 a2 a3 = some r) : Con l D cy (wsN cy h) (adN h) yL_is wsL_is rm_L_is 0 0 [.long a0, .long a1, .long a2, .long a3] (some (.int r)) ν ν := by
  refine Con.ofM (ρ := Int32) (lv0 := [(0, .long a0), (2, .long a1), (4, .long a2), (6, .long a3)]) (σ := ν) (mc := 0) (ms := 0) (fun r : Int32 => some (.int r)) (fun _ => ν) (by decide) rfl rfl (Nat.le_of_ble_eq_true rfl) rfl hW hr (fun p e s m args below meth c E => ?_)
  unfold f_L_is
  refine G.lload E dL_is_0 3 rfl ?_
  refine G.lconst (v := 0) E dL_is_2 (by decide) ?_
  refine G.lcmp E dL_is_3 ?_
  refine G.if_ne (tgt := 25) E dL_is_4 (by decide) ?_ ?_
  · refine G.lload_n E dL_is_7 0 rfl rfl ?_
    refine G.lconst (v := 0) E dL_is_8 (by decide) ?_
    refine G.lcmp E dL_is_9 ?_
    refine G.if_ne (tgt := 23) E dL_is_10 (by decide) ?_ ?_
    · refine G.lload_n E dL_is_13 1 rfl rfl ?_
      refine G.lconst (v := 0) E dL_is_14 (by decide) ?_
      refine G.lcmp E dL_is_15 ?_
      refine G.if_ne (tgt := 23) E dL_is_16 (by decide) ?_ ?_
      · refine G.iconst (v := 1) E dL_is_19 (by decide) ?_
        refine G.goto (tgt := 24) E dL_is_20 (by decide) ?_
        refine G.widen (k1 := 0) (n1 := 0) (by omega) (by omega) ?_
        exact G.zretc E dL_is_24 rfl rfl rfl
      · refine G.iconst (v := 0) E dL_is_23 (by decide) ?_
        refine G.widen (k1 := 0) (n1 := 0) (by omega) (by omega) ?_
        exact G.zretc E dL_is_24 rfl rfl rfl
    · refine G.iconst (v := 0) E dL_is_23 (by decide) ?_
      refine G.widen (k1 := 0) (n1 := 0) (by omega) (by omega) ?_
      exact G.zretc E dL_is_24 rfl rfl rfl
  · refine G.lload E dL_is_25 2 rfl ?_
    refine G.lload E dL_is_27 3 rfl ?_
    refine G.callSl (mc := 0) (ms := 0) (rm := rm_L_common) (n := 2) (As := [.long a2, .long a3]) E dL_is_29 (fun _ hv => c_L_common E.wf hv) gL_is_L_common rfl rfl rfl (by decide +kernel) ⟨Nat.le_of_ble_eq_true rfl, Nat.le_of_ble_eq_true rfl⟩ rfl (Nat.le_of_ble_eq_true rfl) ⟨by show _ ≤ 0; omega, by show _ ≤ 0; omega⟩ (fun v1 => ?_)
    refine G.lstore (lv' := [(8, .long v1), (0, .long a0), (2, .long a1), (4, .long a2), (6, .long a3)]) E dL_is_32 (by decide) rfl ?_
    refine G.lload_n E dL_is_34 1 rfl rfl ?_
    refine G.lload E dL_is_35 3 rfl ?_
    refine G.lload E dL_is_37 0 rfl ?_
    refine G.ldiv E dL_is_39 (fun v2 => ?_)
    refine G.lcmp E dL_is_40 ?_
    refine G.if_ne (tgt := 58) E dL_is_41 (by decide) ?_ ?_
    · refine G.lload_n E dL_is_44 2 rfl rfl ?_
      refine G.lload E dL_is_45 4 rfl ?_
      refine G.lload E dL_is_47 0 rfl ?_
      refine G.ldiv E dL_is_49 (fun v3 => ?_)
      refine G.lcmp E dL_is_50 ?_
      refine G.if_ne (tgt := 58) E dL_is_51 (by decide) ?_ ?_
      · refine G.iconst (v := 1) E dL_is_54 (by decide) ?_
        refine G.goto (tgt := 59) E dL_is_55 (by decide) ?_
        refine G.widen (k1 := 0) (n1 := 0) (by omega) (by omega) ?_
        exact G.zretc E dL_is_59 rfl rfl rfl
      · refine G.iconst (v := 0) E dL_is_58 (by decide) ?_
        refine G.widen (k1 := 0) (n1 := 0) (by omega) (by omega) ?_
        exact G.zretc E dL_is_59 rfl rfl rfl
    · refine G.iconst (v := 0) E dL_is_58 (by decide) ?_
      refine G.widen (k1 := 0) (n1 := 0) (by omega) (by omega) ?_
      exact G.zretc E dL_is_59 rfl rfl rfl
end TR
