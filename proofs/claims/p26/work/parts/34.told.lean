section TR
variable {p : Program} {l : Launch} {e : Env} {s : State} {m : MethodId} {args : Array Value} {below : List Frame} {meth : Method} {c : Code} {D : va_G} {cy : Nat → ClassId} {h : Nat → Nat}

abbrev rm_L_isStarred : Room := { frames := 18, cells := 50, slots := 1716, locals := 451 }
noncomputable def f_L_isStarred (N : Nat) (γ : Wd) (ν : Wd) (a1 : Int32) (a2 : Int64) (a3 : Int64) : Option (Int32 × Wd) :=
  rI ν 0 6 1 fun v1 =>
  rI ν 0 6 2 fun v2 =>
  lI (v1 &&& v2) fun v3 =>
  if ((v3 >>> (a1 &&& 31)) &&& 1) = 0 then (
    bS (f_L_starred N γ a1 1) fun v24 s25 =>
    if (lg_cmp v24 (-9200000000000000001)) = 0 then (
      some (1, s25))
    else (
      some (0, s25)))
  else (
    lI (v3 &&& ((1 <<< (a1 &&& 31)) ^^^ (-1))) fun v4 =>
    jn (fun (v5 : Int32) => ((
      lI (v4 &&& (v4 - 1)) fun v6 =>
      jn (fun (_u : Unit) => ((
        bS (f_L_starred N γ a1 1) fun v7 s8 =>
        if (lg_cmp v7 0) = 0 then (
          bS (f_L_starred N s8 a1 0) fun v9 s10 =>
          if (lg_cmp v9 0) = 0 then (
            some (1, s10))
          else (
            some (0, s10)))
        else (
          some (0, s8))) : Option (Int32 × Wd))) fun j89 =>
      if v6 = 0 then (
        j89 ())
      else (
        if (v6 &&& (v6 - 1)) = 0 then (
          bP (f_L_lowest N v6) fun v11 =>
          bP (f_L_pair N ν v5 v11) fun v12 =>
          jn (fun (v13 : Int32) => ((
            bS (f_L_starred N γ a1 0) fun v14 s15 =>
            bS (f_L_starred N s15 a1 1) fun v16 s17 =>
            jn (fun (v18 : Int64) => ((
              jn (fun (v19 : Int64) => ((
                bP (f_L_is N v14 v16 v18 v19) fun v20 =>
                zb v20 (some (v20, s17))) : Option (Int32 × Wd))) fun j233 =>
              if v13 = 0 then (
                j233 0)
              else (
                j233 v12)) : Option (Int32 × Wd))) fun j222 =>
            if v13 = 0 then (
              j222 0)
            else (
              j222 a2)) : Option (Int32 × Wd))) fun j198 =>
          jn (fun (_u : Unit) => ((
            j198 0) : Option (Int32 × Wd))) fun j197 =>
          if (lg_cmp a3 0) ≤ 0 then (
            j197 ())
          else (
            if (lg_cmp v12 0) ≤ 0 then (
              j197 ())
            else (
              bP (f_L_pair N ν a1 v5) fun v21 =>
              if (lg_cmp v21 0) ≤ 0 then (
                j197 ())
              else (
                bP (f_L_pair N ν a1 v11) fun v22 =>
                if (lg_cmp v22 0) ≤ 0 then (
                  j197 ())
                else (
                  j198 1)))))
        else (
          j89 ()))) : Option (Int32 × Wd))) fun j63 =>
    if v4 = 0 then (
      j63 (-1))
    else (
      bP (f_L_lowest N v4) fun v23 =>
      j63 v23))
set_option maxHeartbeats 4000000 in
set_option maxRecDepth 100000 in
theorem c_L_isStarred {l : Launch} {D : va_G} {cy : Nat → ClassId} {h : Nat → Nat} {N : Nat} {γ : Wd} {ν : Wd} {a1 : Int32} {a2 : Int64} {a3 : Int64} {r : Int32} {γ1 : Wd} (hW : WF (wsL cy h) (adL h)) (hfl : l.stackTraces = false) (hr : f_L_isStarred N γ ν a1 a2 a3 = some (r, γ1)) : Con l D cy (wsL cy h) (adL h) yL_isStarred wsL_isStarred rm_L_isStarred 50 1716 [.ref (h 0), .int a1, .long a2, .long a3, .ref (h 58), .ref (h 59), .ref (h 60), .ref (h 61)] (some (.int r)) (γ, ν) (γ1, ν) := by
  refine Con.ofM (ρ := Int32 × Wd) (lv0 := [(0, .ref (h 0)), (1, .int a1), (2, .long a2), (4, .long a3), (6, .ref (h 58)), (7, .ref (h 59)), (8, .ref (h 60)), (9, .ref (h 61))]) (σ := (γ, ν)) (mc := 50) (ms := 1716) (fun r : Int32 × Wd => some (.int r.1)) (fun r => (r.2, ν)) (by decide) rfl rfl (Nat.le_of_ble_eq_true rfl) rfl hW hr (fun p e s m args below meth c E => ?_)
  unfold f_L_isStarred
  refine G.aload E dL_isStarred_0 4 rfl ?_
  refine G.iconst (v := 1) E dL_isStarred_2 (by decide) ?_
  refine G.ialdW (q0 := 58) (p0 := 0) (n := 6) ν E dL_isStarred_3 (wsL_at58 _ _ _) (fun v1 => ?_)
  refine G.aload E dL_isStarred_4 4 rfl ?_
  refine G.iconst (v := 2) E dL_isStarred_6 (by decide) ?_
  refine G.ialdW (q0 := 58) (p0 := 0) (n := 6) ν E dL_isStarred_7 (wsL_at58 _ _ _) (fun v2 => ?_)
  refine G.iand E dL_isStarred_8 ?_
  refine G.letI (fun v3 => ?_)
  refine G.istore (lv' := [(10, .int v3), (0, .ref (h 0)), (1, .int a1), (2, .long a2), (4, .long a3), (6, .ref (h 58)), (7, .ref (h 59)), (8, .ref (h 60)), (9, .ref (h 61))]) E dL_isStarred_9 (by decide) rfl ?_
  refine G.iload E dL_isStarred_11 0 rfl ?_
  refine G.iload_n E dL_isStarred_13 2 rfl rfl ?_
  refine G.ishr E dL_isStarred_14 ?_
  refine G.iconst (v := 1) E dL_isStarred_15 (by decide) ?_
  refine G.iand E dL_isStarred_16 ?_
  refine G.if_ne (tgt := 39) E dL_isStarred_17 (by decide) ?_ ?_
  · refine G.aload_n E dL_isStarred_20 1 rfl rfl ?_
    refine G.iload_n E dL_isStarred_21 2 rfl rfl ?_
    refine G.iconst (v := 1) E dL_isStarred_22 (by decide) ?_
    refine G.callWlW (mc := 1) (ms := 6) (rm := rm_L_starred) (n := 3) (As := [.ref (h 0), .int a1, .int 1]) (fun x => (x, ν)) E dL_isStarred_23 (fun _ _ hv => c_L_starred E.wf hfl hv) gL_isStarred_L_starred rfl rfl rfl (by decide +kernel) ⟨Nat.le_of_ble_eq_true rfl, Nat.le_of_ble_eq_true rfl⟩ rfl (Nat.le_of_ble_eq_true rfl) ⟨by show _ ≤ 50; omega, by show _ ≤ 1716; omega⟩ (fun v24 s25 => ?_)
    refine G.ldc2w (v := -9200000000000000001) E dL_isStarred_26 (List.mem_of_getElem? (i := 1) rfl) ?_
    refine G.lcmp E dL_isStarred_29 ?_
    refine G.if_ne (tgt := 37) E dL_isStarred_30 (by decide) ?_ ?_
    · refine G.iconst (v := 1) E dL_isStarred_33 (by decide) ?_
      refine G.goto (tgt := 38) E dL_isStarred_34 (by decide) ?_
      refine G.widen (k1 := 50) (n1 := 1716) (by omega) (by omega) ?_
      exact G.zretc E dL_isStarred_38 rfl rfl rfl
    · refine G.iconst (v := 0) E dL_isStarred_37 (by decide) ?_
      refine G.widen (k1 := 50) (n1 := 1716) (by omega) (by omega) ?_
      exact G.zretc E dL_isStarred_38 rfl rfl rfl
  · refine G.iload E dL_isStarred_39 0 rfl ?_
    refine G.iconst (v := 1) E dL_isStarred_41 (by decide) ?_
    refine G.iload_n E dL_isStarred_42 2 rfl rfl ?_
    refine G.ishl E dL_isStarred_43 ?_
    refine G.iconst (v := (-1)) E dL_isStarred_44 (by decide) ?_
    refine G.ixor E dL_isStarred_45 ?_
    refine G.iand E dL_isStarred_46 ?_
    refine G.letI (fun v4 => ?_)
    refine G.istore (lv' := [(11, .int v4), (10, .int v3), (0, .ref (h 0)), (1, .int a1), (2, .long a2), (4, .long a3), (6, .ref (h 58)), (7, .ref (h 59)), (8, .ref (h 60)), (9, .ref (h 61))]) E dL_isStarred_47 (by decide) rfl ?_
    refine G.iload E dL_isStarred_49 0 rfl ?_
    refine G.jn (P := fun j => ∀ (v5 : Int32), G p l e (headSpec wsL_isStarred rm_L_isStarred).room s m args below meth c 18 0 0 D (wsL cy h) (adL h) (QM D (wsL cy h) (adL h) below args s 50 1716 (fun r : Int32 × Wd => some (.int r.1)) (fun r => (r.2, ν))) 63 [(0, .ref (h 0)), (1, .int a1), (2, .long a2), (4, .long a3), (6, .ref (h 58)), (7, .ref (h 59)), (8, .ref (h 60)), (9, .ref (h 61)), (11, .int v4)] [.int v5] (γ, ν) (j v5)) ?_ (fun j63 hj63 => ?_)
    · intro v5
      refine G.istore (lv' := [(12, .int v5), (0, .ref (h 0)), (1, .int a1), (2, .long a2), (4, .long a3), (6, .ref (h 58)), (7, .ref (h 59)), (8, .ref (h 60)), (9, .ref (h 61)), (11, .int v4)]) E dL_isStarred_63 (by decide) rfl ?_
      refine G.iload E dL_isStarred_65 9 rfl ?_
      refine G.iload E dL_isStarred_67 9 rfl ?_
      refine G.iconst (v := 1) E dL_isStarred_69 (by decide) ?_
      refine G.isub E dL_isStarred_70 ?_
      refine G.iand E dL_isStarred_71 ?_
      refine G.letI (fun v6 => ?_)
      refine G.istore (lv' := [(13, .int v6), (12, .int v5), (0, .ref (h 0)), (1, .int a1), (2, .long a2), (4, .long a3), (6, .ref (h 58)), (7, .ref (h 59)), (8, .ref (h 60)), (9, .ref (h 61)), (11, .int v4)]) E dL_isStarred_72 (by decide) rfl ?_
      refine G.iload E dL_isStarred_74 0 rfl ?_
      refine G.jn (P := fun j => ∀ (_u : Unit), G p l e (headSpec wsL_isStarred rm_L_isStarred).room s m args below meth c 18 0 0 D (wsL cy h) (adL h) (QM D (wsL cy h) (adL h) below args s 50 1716 (fun r : Int32 × Wd => some (.int r.1)) (fun r => (r.2, ν))) 89 [(0, .ref (h 0)), (1, .int a1)] [] (γ, ν) (j _u)) ?_ (fun j89 hj89 => ?_)
      · intro _u
        refine G.aload_n E dL_isStarred_89 0 rfl rfl ?_
        refine G.iload_n E dL_isStarred_90 1 rfl rfl ?_
        refine G.iconst (v := 1) E dL_isStarred_91 (by decide) ?_
        refine G.callWlW (mc := 1) (ms := 6) (rm := rm_L_starred) (n := 3) (As := [.ref (h 0), .int a1, .int 1]) (fun x => (x, ν)) E dL_isStarred_92 (fun _ _ hv => c_L_starred E.wf hfl hv) gL_isStarred_L_starred rfl rfl rfl (by decide +kernel) ⟨Nat.le_of_ble_eq_true rfl, Nat.le_of_ble_eq_true rfl⟩ rfl (Nat.le_of_ble_eq_true rfl) ⟨by show _ ≤ 50; omega, by show _ ≤ 1716; omega⟩ (fun v7 s8 => ?_)
        refine G.lconst (v := 0) E dL_isStarred_95 (by decide) ?_
        refine G.lcmp E dL_isStarred_96 ?_
        refine G.if_ne (tgt := 115) E dL_isStarred_97 (by decide) ?_ ?_
        · refine G.aload_n E dL_isStarred_100 0 rfl rfl ?_
          refine G.iload_n E dL_isStarred_101 1 rfl rfl ?_
          refine G.iconst (v := 0) E dL_isStarred_102 (by decide) ?_
          refine G.callWlW (mc := 1) (ms := 6) (rm := rm_L_starred) (n := 3) (As := [.ref (h 0), .int a1, .int 0]) (fun x => (x, ν)) E dL_isStarred_103 (fun _ _ hv => c_L_starred E.wf hfl hv) gL_isStarred_L_starred rfl rfl rfl (by decide +kernel) ⟨Nat.le_of_ble_eq_true rfl, Nat.le_of_ble_eq_true rfl⟩ rfl (Nat.le_of_ble_eq_true rfl) ⟨by show _ ≤ 50; omega, by show _ ≤ 1716; omega⟩ (fun v9 s10 => ?_)
          refine G.lconst (v := 0) E dL_isStarred_106 (by decide) ?_
          refine G.lcmp E dL_isStarred_107 ?_
          refine G.if_ne (tgt := 115) E dL_isStarred_108 (by decide) ?_ ?_
          · refine G.iconst (v := 1) E dL_isStarred_111 (by decide) ?_
            refine G.goto (tgt := 116) E dL_isStarred_112 (by decide) ?_
            refine G.widen (k1 := 50) (n1 := 1716) (by omega) (by omega) ?_
            exact G.zretc E dL_isStarred_116 rfl rfl rfl
          · refine G.iconst (v := 0) E dL_isStarred_115 (by decide) ?_
            refine G.widen (k1 := 50) (n1 := 1716) (by omega) (by omega) ?_
            exact G.zretc E dL_isStarred_116 rfl rfl rfl
        · refine G.iconst (v := 0) E dL_isStarred_115 (by decide) ?_
          refine G.widen (k1 := 50) (n1 := 1716) (by omega) (by omega) ?_
          exact G.zretc E dL_isStarred_116 rfl rfl rfl
      · refine G.if_eq (tgt := 89) E dL_isStarred_76 (by decide) ?_ ?_
        · refine G.widen (k1 := 0) (n1 := 0) (by omega) (by omega) ?_
          refine G.loc [2, 3] rfl ?_
          exact hj89 ()
        · refine G.iload E dL_isStarred_79 0 rfl ?_
          refine G.iload E dL_isStarred_81 0 rfl ?_
          refine G.iconst (v := 1) E dL_isStarred_83 (by decide) ?_
          refine G.isub E dL_isStarred_84 ?_
          refine G.iand E dL_isStarred_85 ?_
          refine G.if_eq (tgt := 117) E dL_isStarred_86 (by decide) ?_ ?_
          · refine G.iload E dL_isStarred_117 0 rfl ?_
            refine G.callSi (mc := 0) (ms := 0) (rm := rm_L_lowest) (n := 1) (As := [.int v6]) E dL_isStarred_119 (fun _ hv => Con.inN E.wf (c_L_lowest (wfL_N E.wf) hv)) gL_isStarred_L_lowest rfl rfl rfl (by decide +kernel) ⟨Nat.le_of_ble_eq_true rfl, Nat.le_of_ble_eq_true rfl⟩ rfl (Nat.le_of_ble_eq_true rfl) ⟨by show _ ≤ 50; omega, by show _ ≤ 1716; omega⟩ (fun v11 => ?_)
            refine G.istore (lv' := [(14, .int v11), (13, .int v6), (12, .int v5), (0, .ref (h 0)), (1, .int a1), (2, .long a2), (4, .long a3), (6, .ref (h 58)), (7, .ref (h 59)), (8, .ref (h 60)), (9, .ref (h 61)), (11, .int v4)]) E dL_isStarred_122 (by decide) rfl ?_
            refine G.iload E dL_isStarred_124 2 rfl ?_
            refine G.iload E dL_isStarred_126 0 rfl ?_
            refine G.aload E dL_isStarred_128 7 rfl ?_
            refine G.aload E dL_isStarred_130 8 rfl ?_
            refine G.aload E dL_isStarred_132 9 rfl ?_
            refine G.aload E dL_isStarred_134 10 rfl ?_
            refine G.callSl (mc := 16) (ms := 568) (rm := rm_L_pair) (n := 6) (As := [.int v5, .int v11, .ref (h 58), .ref (h 59), .ref (h 60), .ref (h 61)]) E dL_isStarred_136 (fun _ hv => Con.inN E.wf (c_L_pair (wfL_N E.wf) hv)) gL_isStarred_L_pair rfl rfl rfl (by decide +kernel) ⟨Nat.le_of_ble_eq_true rfl, Nat.le_of_ble_eq_true rfl⟩ rfl (Nat.le_of_ble_eq_true rfl) ⟨by show _ ≤ 50; omega, by show _ ≤ 1716; omega⟩ (fun v12 => ?_)
            refine G.lstore (lv' := [(15, .long v12), (14, .int v11), (13, .int v6), (12, .int v5), (0, .ref (h 0)), (1, .int a1), (2, .long a2), (4, .long a3), (6, .ref (h 58)), (7, .ref (h 59)), (8, .ref (h 60)), (9, .ref (h 61)), (11, .int v4)]) E dL_isStarred_139 (by decide) rfl ?_
            refine G.lload E dL_isStarred_141 7 rfl ?_
            refine G.lconst (v := 0) E dL_isStarred_143 (by decide) ?_
            refine G.lcmp E dL_isStarred_144 ?_
            refine G.jn (P := fun j => ∀ (v13 : Int32), G p l e (headSpec wsL_isStarred rm_L_isStarred).room s m args below meth c 18 48 1704 D (wsL cy h) (adL h) (QM D (wsL cy h) (adL h) below args s 50 1716 (fun r : Int32 × Wd => some (.int r.1)) (fun r => (r.2, ν))) 198 [(0, .ref (h 0)), (1, .int a1), (2, .long a2), (15, .long v12)] [.int v13] (γ, ν) (j v13)) ?_ (fun j198 hj198 => ?_)
            · intro v13
              refine G.istore (lv' := [(17, .int v13), (0, .ref (h 0)), (1, .int a1), (2, .long a2), (15, .long v12)]) E dL_isStarred_198 (by decide) rfl ?_
              refine G.aload_n E dL_isStarred_200 1 rfl rfl ?_
              refine G.iload_n E dL_isStarred_201 2 rfl rfl ?_
              refine G.iconst (v := 0) E dL_isStarred_202 (by decide) ?_
              refine G.callWlW (mc := 1) (ms := 6) (rm := rm_L_starred) (n := 3) (As := [.ref (h 0), .int a1, .int 0]) (fun x => (x, ν)) E dL_isStarred_203 (fun _ _ hv => c_L_starred E.wf hfl hv) gL_isStarred_L_starred rfl rfl rfl (by decide +kernel) ⟨Nat.le_of_ble_eq_true rfl, Nat.le_of_ble_eq_true rfl⟩ rfl (Nat.le_of_ble_eq_true rfl) ⟨by show _ ≤ 50; omega, by show _ ≤ 1716; omega⟩ (fun v14 s15 => ?_)
              refine G.aload_n E dL_isStarred_206 1 rfl rfl ?_
              refine G.iload_n E dL_isStarred_207 2 rfl rfl ?_
              refine G.iconst (v := 1) E dL_isStarred_208 (by decide) ?_
              refine G.callWlW (mc := 1) (ms := 6) (rm := rm_L_starred) (n := 3) (As := [.ref (h 0), .int a1, .int 1]) (fun x => (x, ν)) E dL_isStarred_209 (fun _ _ hv => c_L_starred E.wf hfl hv) gL_isStarred_L_starred rfl rfl rfl (by decide +kernel) ⟨Nat.le_of_ble_eq_true rfl, Nat.le_of_ble_eq_true rfl⟩ rfl (Nat.le_of_ble_eq_true rfl) ⟨by show _ ≤ 50; omega, by show _ ≤ 1716; omega⟩ (fun v16 s17 => ?_)
              refine G.iload E dL_isStarred_212 0 rfl ?_
              refine G.jn (P := fun j => ∀ (v18 : Int64), G p l e (headSpec wsL_isStarred rm_L_isStarred).room s m args below meth c 18 50 1716 D (wsL cy h) (adL h) (QM D (wsL cy h) (adL h) below args s 50 1716 (fun r : Int32 × Wd => some (.int r.1)) (fun r => (r.2, ν))) 222 [(15, .long v12), (17, .int v13)] [.long v18, .long v16, .long v14] (s17, ν) (j v18)) ?_ (fun j222 hj222 => ?_)
              · intro v18
                refine G.iload E dL_isStarred_222 1 rfl ?_
                refine G.jn (P := fun j => ∀ (v19 : Int64), G p l e (headSpec wsL_isStarred rm_L_isStarred).room s m args below meth c 18 50 1716 D (wsL cy h) (adL h) (QM D (wsL cy h) (adL h) below args s 50 1716 (fun r : Int32 × Wd => some (.int r.1)) (fun r => (r.2, ν))) 233 [] [.long v19, .long v18, .long v16, .long v14] (s17, ν) (j v19)) ?_ (fun j233 hj233 => ?_)
                · intro v19
                  refine G.callSi (mc := 0) (ms := 0) (rm := rm_L_is) (n := 4) (As := [.long v14, .long v16, .long v18, .long v19]) E dL_isStarred_233 (fun _ hv => Con.inN E.wf (c_L_is (wfL_N E.wf) hv)) gL_isStarred_L_is rfl rfl rfl (by decide +kernel) ⟨Nat.le_of_ble_eq_true rfl, Nat.le_of_ble_eq_true rfl⟩ rfl (Nat.le_of_ble_eq_true rfl) ⟨by show _ ≤ 50; omega, by show _ ≤ 1716; omega⟩ (fun v20 => ?_)
                  refine G.widen (k1 := 50) (n1 := 1716) (by omega) (by omega) ?_
                  exact G.zret E dL_isStarred_236 rfl rfl
                · refine G.if_eq (tgt := 232) E dL_isStarred_224 (by decide) ?_ ?_
                  · refine G.lconst (v := 0) E dL_isStarred_232 (by decide) ?_
                    refine G.widen (k1 := 50) (n1 := 1716) (by omega) (by omega) ?_
                    refine G.loc [] rfl ?_
                    exact hj233 0
                  · refine G.lload E dL_isStarred_227 0 rfl ?_
                    refine G.goto (tgt := 233) E dL_isStarred_229 (by decide) ?_
                    refine G.widen (k1 := 50) (n1 := 1716) (by omega) (by omega) ?_
                    refine G.loc [] rfl ?_
                    exact hj233 v12
              · refine G.if_eq (tgt := 221) E dL_isStarred_214 (by decide) ?_ ?_
                · refine G.lconst (v := 0) E dL_isStarred_221 (by decide) ?_
                  refine G.widen (k1 := 50) (n1 := 1716) (by omega) (by omega) ?_
                  refine G.loc [4, 0] rfl ?_
                  exact hj222 0
                · refine G.lload_n E dL_isStarred_217 3 rfl rfl ?_
                  refine G.goto (tgt := 222) E dL_isStarred_218 (by decide) ?_
                  refine G.widen (k1 := 50) (n1 := 1716) (by omega) (by omega) ?_
                  refine G.loc [4, 0] rfl ?_
                  exact hj222 a2
            · refine G.jn (P := fun j => ∀ (_u : Unit), G p l e (headSpec wsL_isStarred rm_L_isStarred).room s m args below meth c 18 48 1704 D (wsL cy h) (adL h) (QM D (wsL cy h) (adL h) below args s 50 1716 (fun r : Int32 × Wd => some (.int r.1)) (fun r => (r.2, ν))) 197 [(0, .ref (h 0)), (1, .int a1), (2, .long a2), (15, .long v12)] [] (γ, ν) (j _u)) ?_ (fun j197 hj197 => ?_)
              · intro _u
                refine G.iconst (v := 0) E dL_isStarred_197 (by decide) ?_
                refine G.widen (k1 := 48) (n1 := 1704) (by omega) (by omega) ?_
                refine G.loc [0, 1, 2, 3] rfl ?_
                exact hj198 0
              · refine G.if_le (tgt := 197) E dL_isStarred_145 (by decide) ?_ ?_
                · refine G.widen (k1 := 48) (n1 := 1704) (by omega) (by omega) ?_
                  refine G.loc [4, 5, 6, 0] rfl ?_
                  exact hj197 ()
                · refine G.lload E dL_isStarred_148 0 rfl ?_
                  refine G.lconst (v := 0) E dL_isStarred_150 (by decide) ?_
                  refine G.lcmp E dL_isStarred_151 ?_
                  refine G.if_le (tgt := 197) E dL_isStarred_152 (by decide) ?_ ?_
                  · refine G.widen (k1 := 48) (n1 := 1704) (by omega) (by omega) ?_
                    refine G.loc [4, 5, 6, 0] rfl ?_
                    exact hj197 ()
                  · refine G.iload_n E dL_isStarred_155 5 rfl rfl ?_
                    refine G.iload E dL_isStarred_156 3 rfl ?_
                    refine G.aload E dL_isStarred_158 8 rfl ?_
                    refine G.aload E dL_isStarred_160 9 rfl ?_
                    refine G.aload E dL_isStarred_162 10 rfl ?_
                    refine G.aload E dL_isStarred_164 11 rfl ?_
                    refine G.callSl (mc := 16) (ms := 568) (rm := rm_L_pair) (n := 6) (As := [.int a1, .int v5, .ref (h 58), .ref (h 59), .ref (h 60), .ref (h 61)]) E dL_isStarred_166 (fun _ hv => Con.inN E.wf (c_L_pair (wfL_N E.wf) hv)) gL_isStarred_L_pair rfl rfl rfl (by decide +kernel) ⟨Nat.le_of_ble_eq_true rfl, Nat.le_of_ble_eq_true rfl⟩ rfl (Nat.le_of_ble_eq_true rfl) ⟨by show _ ≤ 50; omega, by show _ ≤ 1716; omega⟩ (fun v21 => ?_)
                    refine G.lconst (v := 0) E dL_isStarred_169 (by decide) ?_
                    refine G.lcmp E dL_isStarred_170 ?_
                    refine G.if_le (tgt := 197) E dL_isStarred_171 (by decide) ?_ ?_
                    · refine G.widen (k1 := 48) (n1 := 1704) (by omega) (by omega) ?_
                      refine G.loc [4, 5, 6, 0] rfl ?_
                      exact hj197 ()
                    · refine G.iload_n E dL_isStarred_174 5 rfl rfl ?_
                      refine G.iload E dL_isStarred_175 1 rfl ?_
                      refine G.aload E dL_isStarred_177 8 rfl ?_
                      refine G.aload E dL_isStarred_179 9 rfl ?_
                      refine G.aload E dL_isStarred_181 10 rfl ?_
                      refine G.aload E dL_isStarred_183 11 rfl ?_
                      refine G.callSl (mc := 16) (ms := 568) (rm := rm_L_pair) (n := 6) (As := [.int a1, .int v11, .ref (h 58), .ref (h 59), .ref (h 60), .ref (h 61)]) E dL_isStarred_185 (fun _ hv => Con.inN E.wf (c_L_pair (wfL_N E.wf) hv)) gL_isStarred_L_pair rfl rfl rfl (by decide +kernel) ⟨Nat.le_of_ble_eq_true rfl, Nat.le_of_ble_eq_true rfl⟩ rfl (Nat.le_of_ble_eq_true rfl) ⟨by show _ ≤ 50; omega, by show _ ≤ 1716; omega⟩ (fun v22 => ?_)
                      refine G.lconst (v := 0) E dL_isStarred_188 (by decide) ?_
                      refine G.lcmp E dL_isStarred_189 ?_
                      refine G.if_le (tgt := 197) E dL_isStarred_190 (by decide) ?_ ?_
                      · refine G.widen (k1 := 48) (n1 := 1704) (by omega) (by omega) ?_
                        refine G.loc [4, 5, 6, 0] rfl ?_
                        exact hj197 ()
                      · refine G.iconst (v := 1) E dL_isStarred_193 (by decide) ?_
                        refine G.goto (tgt := 198) E dL_isStarred_194 (by decide) ?_
                        refine G.widen (k1 := 48) (n1 := 1704) (by omega) (by omega) ?_
                        refine G.loc [4, 5, 6, 0] rfl ?_
                        exact hj198 1
          · refine G.widen (k1 := 0) (n1 := 0) (by omega) (by omega) ?_
            refine G.loc [2, 3] rfl ?_
            exact hj89 ()
    · refine G.if_ne (tgt := 58) E dL_isStarred_51 (by decide) ?_ ?_
      · refine G.iconst (v := (-1)) E dL_isStarred_54 (by decide) ?_
        refine G.goto (tgt := 63) E dL_isStarred_55 (by decide) ?_
        refine G.widen (k1 := 0) (n1 := 0) (by omega) (by omega) ?_
        refine G.loc [2, 3, 4, 5, 6, 7, 8, 9, 0] rfl ?_
        exact hj63 (-1)
      · refine G.iload E dL_isStarred_58 0 rfl ?_
        refine G.callSi (mc := 0) (ms := 0) (rm := rm_L_lowest) (n := 1) (As := [.int v4]) E dL_isStarred_60 (fun _ hv => Con.inN E.wf (c_L_lowest (wfL_N E.wf) hv)) gL_isStarred_L_lowest rfl rfl rfl (by decide +kernel) ⟨Nat.le_of_ble_eq_true rfl, Nat.le_of_ble_eq_true rfl⟩ rfl (Nat.le_of_ble_eq_true rfl) ⟨by show _ ≤ 50; omega, by show _ ≤ 1716; omega⟩ (fun v23 => ?_)
        refine G.widen (k1 := 0) (n1 := 0) (by omega) (by omega) ?_
        refine G.loc [2, 3, 4, 5, 6, 7, 8, 9, 0] rfl ?_
        exact hj63 v23
abbrev rm_L_areValues : Room := { frames := 18, cells := 788, slots := 27856, locals := 451 }
noncomputable def fl_L_areValues_42 {ρ : Type} (N : Nat) (γ : Wd) (ν : Wd) (x1 : Int32) (x2 : Int64) (x11 : Int32) (x12 : Int32) (K : Int64 → Option (ρ)) : Nat → Int64 → Int32 → Option (ρ)
  | 0, _, _ => none
  | n + 1, x9, x13 =>
    if x12 ≤ x13 then (
      K x9)
    else (
      ck n (
        rI ν 0 6 1 fun v5 =>
        rI ν 0 6 2 fun v6 =>
        jn (fun (v7 : Int64) => ((
          fl_L_areValues_42 N γ ν x1 x2 x11 x12 K n v7 (x13 + 1)) : Option (ρ))) fun j112 =>
        if ((v5 &&& v6) &&& (1 <<< (x13 &&& 31))) ≤ 0 then (
          j112 x9)
        else (
          bP (f_L_pair N ν x12 x13) fun v8 =>
          rI ν 9 7 x12 fun v9 =>
          rI ν 9 7 x13 fun v10 =>
          rI ν 9 7 x12 fun v11 =>
          rI ν 9 7 x13 fun v12 =>
          lL (x9 + ((v8 * (Int32.toInt64 (v9 - v10))) * (Int32.toInt64 (v11 - v12)))) fun v13 =>
          j112 v13)))
set_option maxHeartbeats 4000000 in
set_option maxRecDepth 100000 in
theorem gl_L_areValues_42 {ρ : Type} {Q : ρ → State → Prop} {N : Nat} {γ : Wd} {ν : Wd} {x1 : Int32} {x2 : Int64} {x11 : Int32} {x12 : Int32} {cX sX : Nat} {K : Int64 → Option (ρ)} (E : EV p s m args meth c cL_areValues 15 RL wsL_areValues (some .boolean) D cy (wsL cy h) (adL h)) (hfl : l.stackTraces = false) (hcX : cX ≤ 788) (hsX : sX ≤ 27856) (hK : ∀ (x9' : Int64), G p l e (headSpec wsL_areValues rm_L_areValues).room s m args below meth c 15 cX sX D (wsL cy h) (adL h) Q 118 [(0, .ref (h 0)), (1, .int x1), (2, .long x2), (4, .ref (h 67)), (5, .ref (h 58)), (6, .ref (h 59)), (7, .ref (h 60)), (8, .ref (h 61)), (9, .long (x9')), (11, .int x11), (12, .int x12)] [] (γ, ν) (K x9')) :
  ∀ (n cb sb : Nat), cb + 16 * (n - 1) ≤ cX → sb + 568 * (n - 1) ≤ sX → ∀ (x9 : Int64) (x13 : Int32), G p l e (headSpec wsL_areValues rm_L_areValues).room s m args below meth c 15 cb sb D (wsL cy h) (adL h) Q 42 [(0, .ref (h 0)), (1, .int x1), (2, .long x2), (4, .ref (h 67)), (5, .ref (h 58)), (6, .ref (h 59)), (7, .ref (h 60)), (8, .ref (h 61)), (9, .long x9), (11, .int x11), (12, .int x12), (13, .int x13)] [] (γ, ν) (fl_L_areValues_42 N γ ν x1 x2 x11 x12 K n x9 x13) := by
  intro n
  induction n with
  | zero => intros; exact G.no
  | succ n ih =>
    intro cb sb hcb hsb x9 x13
    have hcb : cb + 16 * n ≤ cX := hcb
    have hsb : sb + 568 * n ≤ sX := hsb
    rw [fl_L_areValues_42]
    refine G.iload E dL_areValues_42 11 rfl ?_
    refine G.iload E dL_areValues_44 10 rfl ?_
    refine G.icmp_ge (tgt := 118) E dL_areValues_46 (by decide) ?_ ?_
    · refine G.widen (k1 := cX) (n1 := sX) (by omega) (by omega) ?_
      refine G.loc [0, 1, 2, 3, 4, 5, 6, 7, 8, 9, 10] rfl ?_
      exact hK x9
    · refine G.ckk (fun hn => ?_)
      refine G.aload E dL_areValues_49 4 rfl ?_
      refine G.iconst (v := 1) E dL_areValues_51 (by decide) ?_
      refine G.ialdW (q0 := 58) (p0 := 0) (n := 6) ν E dL_areValues_52 (wsL_at58 _ _ _) (fun v5 => ?_)
      refine G.aload E dL_areValues_53 4 rfl ?_
      refine G.iconst (v := 2) E dL_areValues_55 (by decide) ?_
      refine G.ialdW (q0 := 58) (p0 := 0) (n := 6) ν E dL_areValues_56 (wsL_at58 _ _ _) (fun v6 => ?_)
      refine G.iand E dL_areValues_57 ?_
      refine G.iconst (v := 1) E dL_areValues_58 (by decide) ?_
      refine G.iload E dL_areValues_59 11 rfl ?_
      refine G.ishl E dL_areValues_61 ?_
      refine G.iand E dL_areValues_62 ?_
      refine G.jn (P := fun j => ∀ (v7 : Int64), G p l e (headSpec wsL_areValues rm_L_areValues).room s m args below meth c 15 (cb + 16) (sb + 568) D (wsL cy h) (adL h) Q 112 [(0, .ref (h 0)), (1, .int x1), (2, .long x2), (4, .ref (h 67)), (5, .ref (h 58)), (6, .ref (h 59)), (7, .ref (h 60)), (8, .ref (h 61)), (9, .long v7), (11, .int x11), (12, .int x12), (13, .int x13)] [] (γ, ν) (j v7)) ?_ (fun j112 hj112 => ?_)
      · intro v7
        refine G.iinc (v := x13 + 1) (lv' := [(13, .int (x13 + 1)), (0, .ref (h 0)), (1, .int x1), (2, .long x2), (4, .ref (h 67)), (5, .ref (h 58)), (6, .ref (h 59)), (7, .ref (h 60)), (8, .ref (h 61)), (9, .long v7), (11, .int x11), (12, .int x12)]) E dL_areValues_112 11 rfl rfl (by decide) rfl ?_
        refine G.goto (tgt := 42) E dL_areValues_115 (by decide) ?_
        refine G.widen (k1 := cb + 16) (n1 := sb + 568) (by omega) (by omega) ?_
        refine G.loc [1, 2, 3, 4, 5, 6, 7, 8, 9, 10, 11, 0] rfl ?_
        exact ih (cb + 16) (sb + 568) (by omega) (by omega) v7 (x13 + 1)
      · refine G.if_le (tgt := 112) E dL_areValues_63 (by decide) ?_ ?_
        · refine G.widen (k1 := cb + 16) (n1 := sb + 568) (by omega) (by omega) ?_
          refine G.loc [0, 1, 2, 3, 4, 5, 6, 7, 8, 9, 10, 11] rfl ?_
          exact hj112 x9
        · refine G.lload E dL_areValues_66 8 rfl ?_
          refine G.iload E dL_areValues_68 10 rfl ?_
          refine G.iload E dL_areValues_70 11 rfl ?_
          refine G.aload E dL_areValues_72 4 rfl ?_
          refine G.aload E dL_areValues_74 5 rfl ?_
          refine G.aload E dL_areValues_76 6 rfl ?_
          refine G.aload E dL_areValues_78 7 rfl ?_
          refine G.callSl (mc := 16) (ms := 568) (rm := rm_L_pair) (n := 6) (As := [.int x12, .int x13, .ref (h 58), .ref (h 59), .ref (h 60), .ref (h 61)]) E dL_areValues_80 (fun _ hv => Con.inN E.wf (c_L_pair (wfL_N E.wf) hv)) gL_areValues_L_pair rfl rfl rfl (by decide +kernel) ⟨Nat.le_of_ble_eq_true rfl, Nat.le_of_ble_eq_true rfl⟩ rfl (Nat.le_of_ble_eq_true rfl) ⟨by show _ ≤ 788; omega, by show _ ≤ 27856; omega⟩ (fun v8 => ?_)
          refine G.aload E dL_areValues_83 3 rfl ?_
          refine G.iload E dL_areValues_85 10 rfl ?_
          refine G.ialdW (q0 := 67) (p0 := 9) (n := 7) ν E dL_areValues_87 (wsL_at67 _ _ _) (fun v9 => ?_)
          refine G.aload E dL_areValues_88 3 rfl ?_
          refine G.iload E dL_areValues_90 11 rfl ?_
          refine G.ialdW (q0 := 67) (p0 := 9) (n := 7) ν E dL_areValues_92 (wsL_at67 _ _ _) (fun v10 => ?_)
          refine G.isub E dL_areValues_93 ?_
          refine G.i2l E dL_areValues_94 ?_
          refine G.lmul E dL_areValues_95 ?_
          refine G.aload E dL_areValues_96 3 rfl ?_
          refine G.iload E dL_areValues_98 10 rfl ?_
          refine G.ialdW (q0 := 67) (p0 := 9) (n := 7) ν E dL_areValues_100 (wsL_at67 _ _ _) (fun v11 => ?_)
          refine G.aload E dL_areValues_101 3 rfl ?_
          refine G.iload E dL_areValues_103 11 rfl ?_
          refine G.ialdW (q0 := 67) (p0 := 9) (n := 7) ν E dL_areValues_105 (wsL_at67 _ _ _) (fun v12 => ?_)
          refine G.isub E dL_areValues_106 ?_
          refine G.i2l E dL_areValues_107 ?_
          refine G.lmul E dL_areValues_108 ?_
          refine G.ladd E dL_areValues_109 ?_
          refine G.letL (fun v13 => ?_)
          refine G.lstore (lv' := [(9, .long v13), (0, .ref (h 0)), (1, .int x1), (2, .long x2), (4, .ref (h 67)), (5, .ref (h 58)), (6, .ref (h 59)), (7, .ref (h 60)), (8, .ref (h 61)), (11, .int x11), (12, .int x12), (13, .int x13)]) E dL_areValues_110 (by decide) rfl ?_
          refine G.widen (k1 := cb + 16) (n1 := sb + 568) (by omega) (by omega) ?_
          refine G.loc [1, 2, 3, 4, 5, 6, 7, 8, 0, 9, 10, 11] rfl ?_
          exact hj112 v13
noncomputable def fl_L_areValues_9 {ρ : Type} (N : Nat) (γ : Wd) (ν : Wd) (x1 : Int32) (x2 : Int64) (K : Int64 → Option (ρ)) : Nat → Int64 → Int32 → Int32 → Option (ρ)
  | 0, _, _, _ => none
  | n + 1, x9, x11, x12 =>
    if 7 ≤ x12 then (
      K x9)
    else (
      ck n (
        rI ν 0 6 1 fun v1 =>
        rI ν 0 6 2 fun v2 =>
        jn (fun (v3 : Int64) (v4 : Int32) => ((
          fl_L_areValues_9 N γ ν x1 x2 K n v3 v4 (x12 + 1)) : Option (ρ))) fun j118 =>
        if ((v1 &&& v2) &&& (1 <<< (x12 &&& 31))) = 0 then (
          j118 x9 x11)
        else (
          fl_L_areValues_42 N γ ν x1 x2 (x11 + 1) x12 (fun v14 =>
            j118 v14 (x11 + 1)) 7 x9 0)))
set_option maxHeartbeats 4000000 in
set_option maxRecDepth 100000 in
theorem gl_L_areValues_9 {ρ : Type} {Q : ρ → State → Prop} {N : Nat} {γ : Wd} {ν : Wd} {x1 : Int32} {x2 : Int64} {cX sX : Nat} {K : Int64 → Option (ρ)} (E : EV p s m args meth c cL_areValues 15 RL wsL_areValues (some .boolean) D cy (wsL cy h) (adL h)) (hfl : l.stackTraces = false) (hcX : cX ≤ 788) (hsX : sX ≤ 27856) (hK : ∀ (x9' : Int64), G p l e (headSpec wsL_areValues rm_L_areValues).room s m args below meth c 15 cX sX D (wsL cy h) (adL h) Q 124 [(0, .ref (h 0)), (1, .int x1), (2, .long x2), (4, .ref (h 67)), (5, .ref (h 58)), (6, .ref (h 59)), (7, .ref (h 60)), (8, .ref (h 61)), (9, .long (x9'))] [] (γ, ν) (K x9')) :
  ∀ (n cb sb : Nat), cb + 96 * (n - 1) ≤ cX → sb + 3408 * (n - 1) ≤ sX → ∀ (x9 : Int64) (x11 : Int32) (x12 : Int32), G p l e (headSpec wsL_areValues rm_L_areValues).room s m args below meth c 15 cb sb D (wsL cy h) (adL h) Q 9 [(0, .ref (h 0)), (1, .int x1), (2, .long x2), (4, .ref (h 67)), (5, .ref (h 58)), (6, .ref (h 59)), (7, .ref (h 60)), (8, .ref (h 61)), (9, .long x9), (11, .int x11), (12, .int x12)] [] (γ, ν) (fl_L_areValues_9 N γ ν x1 x2 K n x9 x11 x12) := by
  intro n
  induction n with
  | zero => intros; exact G.no
  | succ n ih =>
    intro cb sb hcb hsb x9 x11 x12
    have hcb : cb + 96 * n ≤ cX := hcb
    have hsb : sb + 3408 * n ≤ sX := hsb
    rw [fl_L_areValues_9]
    refine G.iload E dL_areValues_9 10 rfl ?_
    refine G.bipush (v := 7) E dL_areValues_11 (by decide) ?_
    refine G.icmp_ge (tgt := 124) E dL_areValues_13 (by decide) ?_ ?_
    · refine G.widen (k1 := cX) (n1 := sX) (by omega) (by omega) ?_
      refine G.loc [0, 1, 2, 3, 4, 5, 6, 7, 8] rfl ?_
      exact hK x9
    · refine G.ckk (fun hn => ?_)
      refine G.aload E dL_areValues_16 4 rfl ?_
      refine G.iconst (v := 1) E dL_areValues_18 (by decide) ?_
      refine G.ialdW (q0 := 58) (p0 := 0) (n := 6) ν E dL_areValues_19 (wsL_at58 _ _ _) (fun v1 => ?_)
      refine G.aload E dL_areValues_20 4 rfl ?_
      refine G.iconst (v := 2) E dL_areValues_22 (by decide) ?_
      refine G.ialdW (q0 := 58) (p0 := 0) (n := 6) ν E dL_areValues_23 (wsL_at58 _ _ _) (fun v2 => ?_)
      refine G.iand E dL_areValues_24 ?_
      refine G.iconst (v := 1) E dL_areValues_25 (by decide) ?_
      refine G.iload E dL_areValues_26 10 rfl ?_
      refine G.ishl E dL_areValues_28 ?_
      refine G.iand E dL_areValues_29 ?_
      refine G.jn (P := fun j => ∀ (v3 : Int64) (v4 : Int32), G p l e (headSpec wsL_areValues rm_L_areValues).room s m args below meth c 15 (cb + 96) (sb + 3408) D (wsL cy h) (adL h) Q 118 [(0, .ref (h 0)), (1, .int x1), (2, .long x2), (4, .ref (h 67)), (5, .ref (h 58)), (6, .ref (h 59)), (7, .ref (h 60)), (8, .ref (h 61)), (9, .long v3), (11, .int v4), (12, .int x12)] [] (γ, ν) (j v3 v4)) ?_ (fun j118 hj118 => ?_)
      · intro v3 v4
        refine G.iinc (v := x12 + 1) (lv' := [(12, .int (x12 + 1)), (0, .ref (h 0)), (1, .int x1), (2, .long x2), (4, .ref (h 67)), (5, .ref (h 58)), (6, .ref (h 59)), (7, .ref (h 60)), (8, .ref (h 61)), (9, .long v3), (11, .int v4)]) E dL_areValues_118 10 rfl rfl (by decide) rfl ?_
        refine G.goto (tgt := 9) E dL_areValues_121 (by decide) ?_
        refine G.widen (k1 := cb + 96) (n1 := sb + 3408) (by omega) (by omega) ?_
        refine G.loc [1, 2, 3, 4, 5, 6, 7, 8, 9, 10, 0] rfl ?_
        exact ih (cb + 96) (sb + 3408) (by omega) (by omega) v3 v4 (x12 + 1)
      · refine G.if_ne (tgt := 36) E dL_areValues_30 (by decide) ?_ ?_
        · refine G.goto (tgt := 118) E dL_areValues_33 (by decide) ?_
          refine G.widen (k1 := cb + 96) (n1 := sb + 3408) (by omega) (by omega) ?_
          refine G.loc [0, 1, 2, 3, 4, 5, 6, 7, 8, 9, 10] rfl ?_
          exact hj118 x9 x11
        · refine G.iinc (v := x11 + 1) (lv' := [(11, .int (x11 + 1)), (0, .ref (h 0)), (1, .int x1), (2, .long x2), (4, .ref (h 67)), (5, .ref (h 58)), (6, .ref (h 59)), (7, .ref (h 60)), (8, .ref (h 61)), (9, .long x9), (12, .int x12)]) E dL_areValues_36 9 rfl rfl (by decide) rfl ?_
          refine G.iconst (v := 0) E dL_areValues_39 (by decide) ?_
          refine G.istore (lv' := [(13, .int 0), (11, .int (x11 + 1)), (0, .ref (h 0)), (1, .int x1), (2, .long x2), (4, .ref (h 67)), (5, .ref (h 58)), (6, .ref (h 59)), (7, .ref (h 60)), (8, .ref (h 61)), (9, .long x9), (12, .int x12)]) E dL_areValues_40 (by decide) rfl ?_
          refine G.widen (k1 := cb) (n1 := sb) (by omega) (by omega) ?_
          refine G.loc [2, 3, 4, 5, 6, 7, 8, 9, 10, 1, 11, 0] rfl ?_
          refine gl_L_areValues_42 (cX := (cb + 96)) (sX := (sb + 3408)) E hfl (by omega) (by omega) (fun v14 => ?_) 7 cb sb (by omega) (by omega) _ _
          refine G.widen (k1 := cb + 96) (n1 := sb + 3408) (by omega) (by omega) ?_
          refine G.loc [0, 1, 2, 3, 4, 5, 6, 7, 8, 9, 10] rfl ?_
          exact hj118 v14 (x11 + 1)
noncomputable def fl_L_areValues_330 {ρ : Type} (N : Nat) (γ : Wd) (ν : Wd) (x1 : Int32) (x2 : Int64) (K : Int64 → Option (ρ)) : Nat → Int64 → Int32 → Option (ρ)
  | 0, _, _ => none
  | n + 1, x12, x14 =>
    if 7 ≤ x14 then (
      K x12)
    else (
      ck n (
        rI ν 0 6 1 fun v23 =>
        rI ν 0 6 2 fun v24 =>
        jn (fun (v25 : Int64) => ((
          fl_L_areValues_330 N γ ν x1 x2 K n v25 (x14 + 1)) : Option (ρ))) fun j385 =>
        if ((v23 &&& v24) &&& (1 <<< (x14 &&& 31))) ≤ 0 then (
          j385 x12)
        else (
          rI ν 9 7 x14 fun v26 =>
          bP (f_L_inner N ν) fun v27 =>
          bP (f_L_minor N ν v27 x1 x14) fun v28 =>
          lL (x12 + ((Int32.toInt64 v26) * v28)) fun v29 =>
          j385 v29)))
set_option maxHeartbeats 4000000 in
set_option maxRecDepth 100000 in
theorem gl_L_areValues_330 {ρ : Type} {Q : ρ → State → Prop} {N : Nat} {γ : Wd} {ν : Wd} {x1 : Int32} {x2 : Int64} {cX sX : Nat} {K : Int64 → Option (ρ)} (E : EV p s m args meth c cL_areValues 15 RL wsL_areValues (some .boolean) D cy (wsL cy h) (adL h)) (hfl : l.stackTraces = false) (hcX : cX ≤ 788) (hsX : sX ≤ 27856) (hK : ∀ (x12' : Int64), G p l e (headSpec wsL_areValues rm_L_areValues).room s m args below meth c 15 cX sX D (wsL cy h) (adL h) Q 391 [(0, .ref (h 0)), (1, .int x1), (2, .long x2), (12, .long (x12'))] [] (γ, ν) (K x12')) :
  ∀ (n cb sb : Nat), cb + 2 * (n - 1) ≤ cX → sb + 71 * (n - 1) ≤ sX → ∀ (x12 : Int64) (x14 : Int32), G p l e (headSpec wsL_areValues rm_L_areValues).room s m args below meth c 15 cb sb D (wsL cy h) (adL h) Q 330 [(0, .ref (h 0)), (1, .int x1), (2, .long x2), (4, .ref (h 67)), (5, .ref (h 58)), (6, .ref (h 59)), (7, .ref (h 60)), (8, .ref (h 61)), (12, .long x12), (14, .int x14)] [] (γ, ν) (fl_L_areValues_330 N γ ν x1 x2 K n x12 x14) := by
  intro n
  induction n with
  | zero => intros; exact G.no
  | succ n ih =>
    intro cb sb hcb hsb x12 x14
    have hcb : cb + 2 * n ≤ cX := hcb
    have hsb : sb + 71 * n ≤ sX := hsb
    rw [fl_L_areValues_330]
    refine G.iload E dL_areValues_330 9 rfl ?_
    refine G.bipush (v := 7) E dL_areValues_332 (by decide) ?_
    refine G.icmp_ge (tgt := 391) E dL_areValues_334 (by decide) ?_ ?_
    · refine G.widen (k1 := cX) (n1 := sX) (by omega) (by omega) ?_
      refine G.loc [0, 1, 2, 8] rfl ?_
      exact hK x12
    · refine G.ckk (fun hn => ?_)
      refine G.aload E dL_areValues_337 4 rfl ?_
      refine G.iconst (v := 1) E dL_areValues_339 (by decide) ?_
      refine G.ialdW (q0 := 58) (p0 := 0) (n := 6) ν E dL_areValues_340 (wsL_at58 _ _ _) (fun v23 => ?_)
      refine G.aload E dL_areValues_341 4 rfl ?_
      refine G.iconst (v := 2) E dL_areValues_343 (by decide) ?_
      refine G.ialdW (q0 := 58) (p0 := 0) (n := 6) ν E dL_areValues_344 (wsL_at58 _ _ _) (fun v24 => ?_)
      refine G.iand E dL_areValues_345 ?_
      refine G.iconst (v := 1) E dL_areValues_346 (by decide) ?_
      refine G.iload E dL_areValues_347 9 rfl ?_
      refine G.ishl E dL_areValues_349 ?_
      refine G.iand E dL_areValues_350 ?_
      refine G.jn (P := fun j => ∀ (v25 : Int64), G p l e (headSpec wsL_areValues rm_L_areValues).room s m args below meth c 15 (cb + 2) (sb + 71) D (wsL cy h) (adL h) Q 385 [(0, .ref (h 0)), (1, .int x1), (2, .long x2), (4, .ref (h 67)), (5, .ref (h 58)), (6, .ref (h 59)), (7, .ref (h 60)), (8, .ref (h 61)), (12, .long v25), (14, .int x14)] [] (γ, ν) (j v25)) ?_ (fun j385 hj385 => ?_)
      · intro v25
        refine G.iinc (v := x14 + 1) (lv' := [(14, .int (x14 + 1)), (0, .ref (h 0)), (1, .int x1), (2, .long x2), (4, .ref (h 67)), (5, .ref (h 58)), (6, .ref (h 59)), (7, .ref (h 60)), (8, .ref (h 61)), (12, .long v25)]) E dL_areValues_385 9 rfl rfl (by decide) rfl ?_
        refine G.goto (tgt := 330) E dL_areValues_388 (by decide) ?_
        refine G.widen (k1 := cb + 2) (n1 := sb + 71) (by omega) (by omega) ?_
        refine G.loc [1, 2, 3, 4, 5, 6, 7, 8, 9, 0] rfl ?_
        exact ih (cb + 2) (sb + 71) (by omega) (by omega) v25 (x14 + 1)
      · refine G.if_le (tgt := 385) E dL_areValues_351 (by decide) ?_ ?_
        · refine G.widen (k1 := cb + 2) (n1 := sb + 71) (by omega) (by omega) ?_
          refine G.loc [0, 1, 2, 3, 4, 5, 6, 7, 8, 9] rfl ?_
          exact hj385 x12
        · refine G.lload E dL_areValues_354 8 rfl ?_
          refine G.aload E dL_areValues_356 3 rfl ?_
          refine G.iload E dL_areValues_358 9 rfl ?_
          refine G.ialdW (q0 := 67) (p0 := 9) (n := 7) ν E dL_areValues_360 (wsL_at67 _ _ _) (fun v26 => ?_)
          refine G.i2l E dL_areValues_361 ?_
          refine G.aload E dL_areValues_362 4 rfl ?_
          refine G.callSi (mc := 0) (ms := 0) (rm := rm_L_inner) (n := 1) (As := [.ref (h 58)]) E dL_areValues_364 (fun _ hv => Con.inN E.wf (c_L_inner (wfL_N E.wf) hv)) gL_areValues_L_inner rfl rfl rfl (by decide +kernel) ⟨Nat.le_of_ble_eq_true rfl, Nat.le_of_ble_eq_true rfl⟩ rfl (Nat.le_of_ble_eq_true rfl) ⟨by show _ ≤ 788; omega, by show _ ≤ 27856; omega⟩ (fun v27 => ?_)
          refine G.iload_n E dL_areValues_367 1 rfl rfl ?_
          refine G.iload E dL_areValues_368 9 rfl ?_
          refine G.aload E dL_areValues_370 4 rfl ?_
          refine G.aload E dL_areValues_372 5 rfl ?_
          refine G.aload E dL_areValues_374 6 rfl ?_
          refine G.aload E dL_areValues_376 7 rfl ?_
          refine G.callSl (mc := 2) (ms := 71) (rm := rm_L_minor) (n := 7) (As := [.int v27, .int x1, .int x14, .ref (h 58), .ref (h 59), .ref (h 60), .ref (h 61)]) E dL_areValues_378 (fun _ hv => Con.inN E.wf (c_L_minor (wfL_N E.wf) hv)) gL_areValues_L_minor rfl rfl rfl (by decide +kernel) ⟨Nat.le_of_ble_eq_true rfl, Nat.le_of_ble_eq_true rfl⟩ rfl (Nat.le_of_ble_eq_true rfl) ⟨by show _ ≤ 788; omega, by show _ ≤ 27856; omega⟩ (fun v28 => ?_)
          refine G.lmul E dL_areValues_381 ?_
          refine G.ladd E dL_areValues_382 ?_
          refine G.letL (fun v29 => ?_)
          refine G.lstore (lv' := [(12, .long v29), (0, .ref (h 0)), (1, .int x1), (2, .long x2), (4, .ref (h 67)), (5, .ref (h 58)), (6, .ref (h 59)), (7, .ref (h 60)), (8, .ref (h 61)), (14, .int x14)]) E dL_areValues_383 (by decide) rfl ?_
          refine G.widen (k1 := cb + 2) (n1 := sb + 71) (by omega) (by omega) ?_
          refine G.loc [1, 2, 3, 4, 5, 6, 7, 8, 0, 9] rfl ?_
          exact hj385 v29
noncomputable def fl_L_areValues_206 {ρ : Type} (N : Nat) (γ : Wd) (ν : Wd) (x1 : Int32) (x2 : Int64) (K : Int64 → Option (ρ)) : Nat → Int64 → Int32 → Option (ρ)
  | 0, _, _ => none
  | n + 1, x12, x14 =>
    if 7 ≤ x14 then (
      K x12)
    else (
      ck n (
        jn (fun (v38 : Int64) => ((
          fl_L_areValues_206 N γ ν x1 x2 K n v38 (x14 + 1)) : Option (ρ))) fun j267 =>
        if x14 = x1 then (
          j267 x12)
        else (
          rI ν 0 6 1 fun v39 =>
          rI ν 0 6 2 fun v40 =>
          if ((v39 &&& v40) &&& (1 <<< (x14 &&& 31))) ≤ 0 then (
            j267 x12)
          else (
            bP (f_L_pair N ν x1 x14) fun v41 =>
            rI ν 9 7 x1 fun v42 =>
            rI ν 9 7 x14 fun v43 =>
            lL (x12 + (v41 * (Int32.toInt64 (v42 - v43)))) fun v44 =>
            j267 v44))))
set_option maxHeartbeats 4000000 in
set_option maxRecDepth 100000 in
theorem gl_L_areValues_206 {ρ : Type} {Q : ρ → State → Prop} {N : Nat} {γ : Wd} {ν : Wd} {x1 : Int32} {x2 : Int64} {cX sX : Nat} {K : Int64 → Option (ρ)} (E : EV p s m args meth c cL_areValues 15 RL wsL_areValues (some .boolean) D cy (wsL cy h) (adL h)) (hfl : l.stackTraces = false) (hcX : cX ≤ 788) (hsX : sX ≤ 27856) (hK : ∀ (x12' : Int64), G p l e (headSpec wsL_areValues rm_L_areValues).room s m args below meth c 15 cX sX D (wsL cy h) (adL h) Q 273 [(0, .ref (h 0)), (1, .int x1), (2, .long x2), (4, .ref (h 67)), (12, .long (x12'))] [] (γ, ν) (K x12')) :
  ∀ (n cb sb : Nat), cb + 16 * (n - 1) ≤ cX → sb + 568 * (n - 1) ≤ sX → ∀ (x12 : Int64) (x14 : Int32), G p l e (headSpec wsL_areValues rm_L_areValues).room s m args below meth c 15 cb sb D (wsL cy h) (adL h) Q 206 [(0, .ref (h 0)), (1, .int x1), (2, .long x2), (4, .ref (h 67)), (5, .ref (h 58)), (6, .ref (h 59)), (7, .ref (h 60)), (8, .ref (h 61)), (12, .long x12), (14, .int x14)] [] (γ, ν) (fl_L_areValues_206 N γ ν x1 x2 K n x12 x14) := by
  intro n
  induction n with
  | zero => intros; exact G.no
  | succ n ih =>
    intro cb sb hcb hsb x12 x14
    have hcb : cb + 16 * n ≤ cX := hcb
    have hsb : sb + 568 * n ≤ sX := hsb
    rw [fl_L_areValues_206]
    refine G.iload E dL_areValues_206 9 rfl ?_
    refine G.bipush (v := 7) E dL_areValues_208 (by decide) ?_
    refine G.icmp_ge (tgt := 273) E dL_areValues_210 (by decide) ?_ ?_
    · refine G.widen (k1 := cX) (n1 := sX) (by omega) (by omega) ?_
      refine G.loc [0, 1, 2, 3, 8] rfl ?_
      exact hK x12
    · refine G.ckk (fun hn => ?_)
      refine G.iload E dL_areValues_213 9 rfl ?_
      refine G.iload_n E dL_areValues_215 1 rfl rfl ?_
      refine G.jn (P := fun j => ∀ (v38 : Int64), G p l e (headSpec wsL_areValues rm_L_areValues).room s m args below meth c 15 (cb + 16) (sb + 568) D (wsL cy h) (adL h) Q 267 [(0, .ref (h 0)), (1, .int x1), (2, .long x2), (4, .ref (h 67)), (5, .ref (h 58)), (6, .ref (h 59)), (7, .ref (h 60)), (8, .ref (h 61)), (12, .long v38), (14, .int x14)] [] (γ, ν) (j v38)) ?_ (fun j267 hj267 => ?_)
      · intro v38
        refine G.iinc (v := x14 + 1) (lv' := [(14, .int (x14 + 1)), (0, .ref (h 0)), (1, .int x1), (2, .long x2), (4, .ref (h 67)), (5, .ref (h 58)), (6, .ref (h 59)), (7, .ref (h 60)), (8, .ref (h 61)), (12, .long v38)]) E dL_areValues_267 9 rfl rfl (by decide) rfl ?_
        refine G.goto (tgt := 206) E dL_areValues_270 (by decide) ?_
        refine G.widen (k1 := cb + 16) (n1 := sb + 568) (by omega) (by omega) ?_
        refine G.loc [1, 2, 3, 4, 5, 6, 7, 8, 9, 0] rfl ?_
        exact ih (cb + 16) (sb + 568) (by omega) (by omega) v38 (x14 + 1)
      · refine G.icmp_eq (tgt := 267) E dL_areValues_216 (by decide) ?_ ?_
        · refine G.widen (k1 := cb + 16) (n1 := sb + 568) (by omega) (by omega) ?_
          refine G.loc [0, 1, 2, 3, 4, 5, 6, 7, 8, 9] rfl ?_
          exact hj267 x12
        · refine G.aload E dL_areValues_219 4 rfl ?_
          refine G.iconst (v := 1) E dL_areValues_221 (by decide) ?_
          refine G.ialdW (q0 := 58) (p0 := 0) (n := 6) ν E dL_areValues_222 (wsL_at58 _ _ _) (fun v39 => ?_)
          refine G.aload E dL_areValues_223 4 rfl ?_
          refine G.iconst (v := 2) E dL_areValues_225 (by decide) ?_
          refine G.ialdW (q0 := 58) (p0 := 0) (n := 6) ν E dL_areValues_226 (wsL_at58 _ _ _) (fun v40 => ?_)
          refine G.iand E dL_areValues_227 ?_
          refine G.iconst (v := 1) E dL_areValues_228 (by decide) ?_
          refine G.iload E dL_areValues_229 9 rfl ?_
          refine G.ishl E dL_areValues_231 ?_
          refine G.iand E dL_areValues_232 ?_
          refine G.if_le (tgt := 267) E dL_areValues_233 (by decide) ?_ ?_
          · refine G.widen (k1 := cb + 16) (n1 := sb + 568) (by omega) (by omega) ?_
            refine G.loc [0, 1, 2, 3, 4, 5, 6, 7, 8, 9] rfl ?_
            exact hj267 x12
          · refine G.lload E dL_areValues_236 8 rfl ?_
            refine G.iload_n E dL_areValues_238 1 rfl rfl ?_
            refine G.iload E dL_areValues_239 9 rfl ?_
            refine G.aload E dL_areValues_241 4 rfl ?_
            refine G.aload E dL_areValues_243 5 rfl ?_
            refine G.aload E dL_areValues_245 6 rfl ?_
            refine G.aload E dL_areValues_247 7 rfl ?_
            refine G.callSl (mc := 16) (ms := 568) (rm := rm_L_pair) (n := 6) (As := [.int x1, .int x14, .ref (h 58), .ref (h 59), .ref (h 60), .ref (h 61)]) E dL_areValues_249 (fun _ hv => Con.inN E.wf (c_L_pair (wfL_N E.wf) hv)) gL_areValues_L_pair rfl rfl rfl (by decide +kernel) ⟨Nat.le_of_ble_eq_true rfl, Nat.le_of_ble_eq_true rfl⟩ rfl (Nat.le_of_ble_eq_true rfl) ⟨by show _ ≤ 788; omega, by show _ ≤ 27856; omega⟩ (fun v41 => ?_)
            refine G.aload E dL_areValues_252 3 rfl ?_
            refine G.iload_n E dL_areValues_254 1 rfl rfl ?_
            refine G.ialdW (q0 := 67) (p0 := 9) (n := 7) ν E dL_areValues_255 (wsL_at67 _ _ _) (fun v42 => ?_)
            refine G.aload E dL_areValues_256 3 rfl ?_
            refine G.iload E dL_areValues_258 9 rfl ?_
            refine G.ialdW (q0 := 67) (p0 := 9) (n := 7) ν E dL_areValues_260 (wsL_at67 _ _ _) (fun v43 => ?_)
            refine G.isub E dL_areValues_261 ?_
            refine G.i2l E dL_areValues_262 ?_
            refine G.lmul E dL_areValues_263 ?_
            refine G.ladd E dL_areValues_264 ?_
            refine G.letL (fun v44 => ?_)
            refine G.lstore (lv' := [(12, .long v44), (0, .ref (h 0)), (1, .int x1), (2, .long x2), (4, .ref (h 67)), (5, .ref (h 58)), (6, .ref (h 59)), (7, .ref (h 60)), (8, .ref (h 61)), (14, .int x14)]) E dL_areValues_265 (by decide) rfl ?_
            refine G.widen (k1 := cb + 16) (n1 := sb + 568) (by omega) (by omega) ?_
            refine G.loc [1, 2, 3, 4, 5, 6, 7, 8, 0, 9] rfl ?_
            exact hj267 v44
noncomputable def f_L_areValues (N : Nat) (γ : Wd) (ν : Wd) (a1 : Int32) (a2 : Int64) : Option (Int32 × Wd) :=
  fl_L_areValues_9 N γ ν a1 a2 (fun v15 =>
    bS (f_X7_power N γ 0) fun v16 s17 =>
    bS (f_X7_power N s17 1) fun v18 s19 =>
    bP (f_L_is N v16 v18 v15 a2) fun v20 =>
    if v20 = 0 then (
      some (0, s19))
    else (
      rI ν 0 6 1 fun v21 =>
      if ((v21 >>> (a1 &&& 31)) &&& 1) = 0 then (
        bS (f_L_potential N s19 a1 0) fun v57 s58 =>
        if (lg_cmp v57 (-9200000000000000001)) = 0 then (
          bS (f_L_current N s58 a1 1) fun v59 s60 =>
          if (lg_cmp v59 (-9200000000000000001)) = 0 then (
            some (1, s60))
          else (
            some (0, s60)))
        else (
          some (0, s58)))
      else (
        rI ν 0 6 2 fun v22 =>
        if ((v22 >>> (a1 &&& 31)) &&& 1) = 1 then (
          fl_L_areValues_206 N s19 ν a1 a2 (fun v45 =>
            bS (f_L_current N s19 a1 0) fun v46 s47 =>
            bS (f_L_current N s47 a1 1) fun v48 s49 =>
            bP (f_L_is N v46 v48 v45 a2) fun v50 =>
            if v50 = 0 then (
              some (0, s49))
            else (
              bS (f_L_potential N s49 a1 0) fun v51 s52 =>
              bS (f_L_potential N s52 a1 1) fun v53 s54 =>
              rI ν 9 7 a1 fun v55 =>
              bP (f_L_is N v51 v53 (Int32.toInt64 v55) 1) fun v56 =>
              if v56 = 0 then (
                some (0, s54))
              else (
                some (1, s54)))) 8 0 0)
        else (
          fl_L_areValues_330 N s19 ν a1 a2 (fun v30 =>
            bS (f_L_potential N s19 a1 0) fun v31 s32 =>
            bS (f_L_potential N s32 a1 1) fun v33 s34 =>
            bP (f_L_is N v31 v33 v30 a2) fun v35 =>
            if v35 = 0 then (
              some (0, s34))
            else (
              bS (f_L_current N s34 a1 1) fun v36 s37 =>
              if (lg_cmp v36 (-9200000000000000001)) = 0 then (
                some (1, s37))
              else (
                some (0, s37)))) 8 0 0)))) 8 0 0 0
set_option maxHeartbeats 4000000 in
set_option maxRecDepth 100000 in
theorem c_L_areValues {l : Launch} {D : va_G} {cy : Nat → ClassId} {h : Nat → Nat} {N : Nat} {γ : Wd} {ν : Wd} {a1 : Int32} {a2 : Int64} {r : Int32} {γ1 : Wd} (hW : WF (wsL cy h) (adL h)) (hfl : l.stackTraces = false) (hr : f_L_areValues N γ ν a1 a2 = some (r, γ1)) : Con l D cy (wsL cy h) (adL h) yL_areValues wsL_areValues rm_L_areValues 788 27856 [.ref (h 0), .int a1, .long a2, .ref (h 67), .ref (h 58), .ref (h 59), .ref (h 60), .ref (h 61)] (some (.int r)) (γ, ν) (γ1, ν) := by
  refine Con.ofM (ρ := Int32 × Wd) (lv0 := [(0, .ref (h 0)), (1, .int a1), (2, .long a2), (4, .ref (h 67)), (5, .ref (h 58)), (6, .ref (h 59)), (7, .ref (h 60)), (8, .ref (h 61))]) (σ := (γ, ν)) (mc := 788) (ms := 27856) (fun r : Int32 × Wd => some (.int r.1)) (fun r => (r.2, ν)) (by decide) rfl rfl (Nat.le_of_ble_eq_true rfl) rfl hW hr (fun p e s m args below meth c E => ?_)
  unfold f_L_areValues
  refine G.lconst (v := 0) E dL_areValues_0 (by decide) ?_
  refine G.lstore (lv' := [(9, .long 0), (0, .ref (h 0)), (1, .int a1), (2, .long a2), (4, .ref (h 67)), (5, .ref (h 58)), (6, .ref (h 59)), (7, .ref (h 60)), (8, .ref (h 61))]) E dL_areValues_1 (by decide) rfl ?_
  refine G.iconst (v := 0) E dL_areValues_3 (by decide) ?_
  refine G.istore (lv' := [(11, .int 0), (9, .long 0), (0, .ref (h 0)), (1, .int a1), (2, .long a2), (4, .ref (h 67)), (5, .ref (h 58)), (6, .ref (h 59)), (7, .ref (h 60)), (8, .ref (h 61))]) E dL_areValues_4 (by decide) rfl ?_
  refine G.iconst (v := 0) E dL_areValues_6 (by decide) ?_
  refine G.istore (lv' := [(12, .int 0), (11, .int 0), (9, .long 0), (0, .ref (h 0)), (1, .int a1), (2, .long a2), (4, .ref (h 67)), (5, .ref (h 58)), (6, .ref (h 59)), (7, .ref (h 60)), (8, .ref (h 61))]) E dL_areValues_7 (by decide) rfl ?_
  refine G.widen (k1 := 0) (n1 := 0) (by omega) (by omega) ?_
  refine G.loc [3, 4, 5, 6, 7, 8, 9, 10, 2, 1, 0] rfl ?_
  refine gl_L_areValues_9 (cX := 672) (sX := 23856) E hfl (by omega) (by omega) (fun v15 => ?_) 8 0 0 (by omega) (by omega) _ _ _
  refine G.aload_n E dL_areValues_124 0 rfl rfl ?_
  refine G.iconst (v := 0) E dL_areValues_125 (by decide) ?_
  refine G.callVlW (mc := 0) (ms := 0) (rm := rm_X7_power) (n := 1) (T := TX7) (N := 7) (C := RX7) (a := h 0) (q0 := 0) (As := [.int 0]) (fun x => (x, ν)) E dL_areValues_126 (fun _ _ hv => Con.inC E.wf (c_X7_power (wfL_C E.wf) hv)) gL_areValues_X7_power rfl rfl rfl (by decide +kernel) ⟨Nat.le_of_ble_eq_true rfl, Nat.le_of_ble_eq_true rfl⟩ ((wsL_at0 _ _ _).trans (wsC_at0 _ _ _)) rfl rfl (Nat.le_of_ble_eq_true rfl) ⟨by show _ ≤ 788; omega, by show _ ≤ 27856; omega⟩ (fun v16 s17 => ?_)
  refine G.aload_n E dL_areValues_129 0 rfl rfl ?_
  refine G.iconst (v := 1) E dL_areValues_130 (by decide) ?_
  refine G.callVlW (mc := 0) (ms := 0) (rm := rm_X7_power) (n := 1) (T := TX7) (N := 7) (C := RX7) (a := h 0) (q0 := 0) (As := [.int 1]) (fun x => (x, ν)) E dL_areValues_131 (fun _ _ hv => Con.inC E.wf (c_X7_power (wfL_C E.wf) hv)) gL_areValues_X7_power rfl rfl rfl (by decide +kernel) ⟨Nat.le_of_ble_eq_true rfl, Nat.le_of_ble_eq_true rfl⟩ ((wsL_at0 _ _ _).trans (wsC_at0 _ _ _)) rfl rfl (Nat.le_of_ble_eq_true rfl) ⟨by show _ ≤ 788; omega, by show _ ≤ 27856; omega⟩ (fun v18 s19 => ?_)
  refine G.lload E dL_areValues_134 8 rfl ?_
  refine G.lload_n E dL_areValues_136 2 rfl rfl ?_
  refine G.callSi (mc := 0) (ms := 0) (rm := rm_L_is) (n := 4) (As := [.long v16, .long v18, .long v15, .long a2]) E dL_areValues_137 (fun _ hv => Con.inN E.wf (c_L_is (wfL_N E.wf) hv)) gL_areValues_L_is rfl rfl rfl (by decide +kernel) ⟨Nat.le_of_ble_eq_true rfl, Nat.le_of_ble_eq_true rfl⟩ rfl (Nat.le_of_ble_eq_true rfl) ⟨by show _ ≤ 788; omega, by show _ ≤ 27856; omega⟩ (fun v20 => ?_)
  refine G.if_ne (tgt := 145) E dL_areValues_140 (by decide) ?_ ?_
  · refine G.iconst (v := 0) E dL_areValues_143 (by decide) ?_
    refine G.widen (k1 := 788) (n1 := 27856) (by omega) (by omega) ?_
    exact G.zretc E dL_areValues_144 rfl rfl rfl
  · refine G.aload E dL_areValues_145 4 rfl ?_
    refine G.iconst (v := 1) E dL_areValues_147 (by decide) ?_
    refine G.ialdW (q0 := 58) (p0 := 0) (n := 6) ν E dL_areValues_148 (wsL_at58 _ _ _) (fun v21 => ?_)
    refine G.iload_n E dL_areValues_149 1 rfl rfl ?_
    refine G.ishr E dL_areValues_150 ?_
    refine G.iconst (v := 1) E dL_areValues_151 (by decide) ?_
    refine G.iand E dL_areValues_152 ?_
    refine G.if_ne (tgt := 188) E dL_areValues_153 (by decide) ?_ ?_
    · refine G.aload_n E dL_areValues_156 0 rfl rfl ?_
      refine G.iload_n E dL_areValues_157 1 rfl rfl ?_
      refine G.iconst (v := 0) E dL_areValues_158 (by decide) ?_
      refine G.callWlW (mc := 1) (ms := 6) (rm := rm_L_potential) (n := 3) (As := [.ref (h 0), .int a1, .int 0]) (fun x => (x, ν)) E dL_areValues_159 (fun _ _ hv => c_L_potential E.wf hfl hv) gL_areValues_L_potential rfl rfl rfl (by decide +kernel) ⟨Nat.le_of_ble_eq_true rfl, Nat.le_of_ble_eq_true rfl⟩ rfl (Nat.le_of_ble_eq_true rfl) ⟨by show _ ≤ 788; omega, by show _ ≤ 27856; omega⟩ (fun v57 s58 => ?_)
      refine G.ldc2w (v := -9200000000000000001) E dL_areValues_162 (List.mem_of_getElem? (i := 1) rfl) ?_
      refine G.lcmp E dL_areValues_165 ?_
      refine G.if_ne (tgt := 186) E dL_areValues_166 (by decide) ?_ ?_
      · refine G.aload_n E dL_areValues_169 0 rfl rfl ?_
        refine G.iload_n E dL_areValues_170 1 rfl rfl ?_
        refine G.iconst (v := 1) E dL_areValues_171 (by decide) ?_
        refine G.callWlW (mc := 1) (ms := 6) (rm := rm_L_current) (n := 3) (As := [.ref (h 0), .int a1, .int 1]) (fun x => (x, ν)) E dL_areValues_172 (fun _ _ hv => c_L_current E.wf hfl hv) gL_areValues_L_current rfl rfl rfl (by decide +kernel) ⟨Nat.le_of_ble_eq_true rfl, Nat.le_of_ble_eq_true rfl⟩ rfl (Nat.le_of_ble_eq_true rfl) ⟨by show _ ≤ 788; omega, by show _ ≤ 27856; omega⟩ (fun v59 s60 => ?_)
        refine G.ldc2w (v := -9200000000000000001) E dL_areValues_175 (List.mem_of_getElem? (i := 1) rfl) ?_
        refine G.lcmp E dL_areValues_178 ?_
        refine G.if_ne (tgt := 186) E dL_areValues_179 (by decide) ?_ ?_
        · refine G.iconst (v := 1) E dL_areValues_182 (by decide) ?_
          refine G.goto (tgt := 187) E dL_areValues_183 (by decide) ?_
          refine G.widen (k1 := 788) (n1 := 27856) (by omega) (by omega) ?_
          exact G.zretc E dL_areValues_187 rfl rfl rfl
        · refine G.iconst (v := 0) E dL_areValues_186 (by decide) ?_
          refine G.widen (k1 := 788) (n1 := 27856) (by omega) (by omega) ?_
          exact G.zretc E dL_areValues_187 rfl rfl rfl
      · refine G.iconst (v := 0) E dL_areValues_186 (by decide) ?_
        refine G.widen (k1 := 788) (n1 := 27856) (by omega) (by omega) ?_
        exact G.zretc E dL_areValues_187 rfl rfl rfl
    · refine G.aload E dL_areValues_188 4 rfl ?_
      refine G.iconst (v := 2) E dL_areValues_190 (by decide) ?_
      refine G.ialdW (q0 := 58) (p0 := 0) (n := 6) ν E dL_areValues_191 (wsL_at58 _ _ _) (fun v22 => ?_)
      refine G.iload_n E dL_areValues_192 1 rfl rfl ?_
      refine G.ishr E dL_areValues_193 ?_
      refine G.iconst (v := 1) E dL_areValues_194 (by decide) ?_
      refine G.iand E dL_areValues_195 ?_
      refine G.iconst (v := 1) E dL_areValues_196 (by decide) ?_
      refine G.icmp_ne (tgt := 324) E dL_areValues_197 (by decide) ?_ ?_
      · refine G.lconst (v := 0) E dL_areValues_200 (by decide) ?_
        refine G.lstore (lv' := [(12, .long 0), (0, .ref (h 0)), (1, .int a1), (2, .long a2), (4, .ref (h 67)), (5, .ref (h 58)), (6, .ref (h 59)), (7, .ref (h 60)), (8, .ref (h 61)), (9, .long v15)]) E dL_areValues_201 (by decide) rfl ?_
        refine G.iconst (v := 0) E dL_areValues_203 (by decide) ?_
        refine G.istore (lv' := [(14, .int 0), (12, .long 0), (0, .ref (h 0)), (1, .int a1), (2, .long a2), (4, .ref (h 67)), (5, .ref (h 58)), (6, .ref (h 59)), (7, .ref (h 60)), (8, .ref (h 61)), (9, .long v15)]) E dL_areValues_204 (by decide) rfl ?_
        refine G.widen (k1 := 672) (n1 := 23856) (by omega) (by omega) ?_
        refine G.loc [2, 3, 4, 5, 6, 7, 8, 9, 1, 0] rfl ?_
        refine gl_L_areValues_206 (cX := 784) (sX := 27832) E hfl (by omega) (by omega) (fun v45 => ?_) 8 672 23856 (by omega) (by omega) _ _
        refine G.aload_n E dL_areValues_273 0 rfl rfl ?_
        refine G.iload_n E dL_areValues_274 1 rfl rfl ?_
        refine G.iconst (v := 0) E dL_areValues_275 (by decide) ?_
        refine G.callWlW (mc := 1) (ms := 6) (rm := rm_L_current) (n := 3) (As := [.ref (h 0), .int a1, .int 0]) (fun x => (x, ν)) E dL_areValues_276 (fun _ _ hv => c_L_current E.wf hfl hv) gL_areValues_L_current rfl rfl rfl (by decide +kernel) ⟨Nat.le_of_ble_eq_true rfl, Nat.le_of_ble_eq_true rfl⟩ rfl (Nat.le_of_ble_eq_true rfl) ⟨by show _ ≤ 788; omega, by show _ ≤ 27856; omega⟩ (fun v46 s47 => ?_)
        refine G.aload_n E dL_areValues_279 0 rfl rfl ?_
        refine G.iload_n E dL_areValues_280 1 rfl rfl ?_
        refine G.iconst (v := 1) E dL_areValues_281 (by decide) ?_
        refine G.callWlW (mc := 1) (ms := 6) (rm := rm_L_current) (n := 3) (As := [.ref (h 0), .int a1, .int 1]) (fun x => (x, ν)) E dL_areValues_282 (fun _ _ hv => c_L_current E.wf hfl hv) gL_areValues_L_current rfl rfl rfl (by decide +kernel) ⟨Nat.le_of_ble_eq_true rfl, Nat.le_of_ble_eq_true rfl⟩ rfl (Nat.le_of_ble_eq_true rfl) ⟨by show _ ≤ 788; omega, by show _ ≤ 27856; omega⟩ (fun v48 s49 => ?_)
        refine G.lload E dL_areValues_285 4 rfl ?_
        refine G.lload_n E dL_areValues_287 2 rfl rfl ?_
        refine G.callSi (mc := 0) (ms := 0) (rm := rm_L_is) (n := 4) (As := [.long v46, .long v48, .long v45, .long a2]) E dL_areValues_288 (fun _ hv => Con.inN E.wf (c_L_is (wfL_N E.wf) hv)) gL_areValues_L_is rfl rfl rfl (by decide +kernel) ⟨Nat.le_of_ble_eq_true rfl, Nat.le_of_ble_eq_true rfl⟩ rfl (Nat.le_of_ble_eq_true rfl) ⟨by show _ ≤ 788; omega, by show _ ≤ 27856; omega⟩ (fun v50 => ?_)
        refine G.if_eq (tgt := 322) E dL_areValues_291 (by decide) ?_ ?_
        · refine G.iconst (v := 0) E dL_areValues_322 (by decide) ?_
          refine G.widen (k1 := 788) (n1 := 27856) (by omega) (by omega) ?_
          exact G.zretc E dL_areValues_323 rfl rfl rfl
        · refine G.aload_n E dL_areValues_294 0 rfl rfl ?_
          refine G.iload_n E dL_areValues_295 1 rfl rfl ?_
          refine G.iconst (v := 0) E dL_areValues_296 (by decide) ?_
          refine G.callWlW (mc := 1) (ms := 6) (rm := rm_L_potential) (n := 3) (As := [.ref (h 0), .int a1, .int 0]) (fun x => (x, ν)) E dL_areValues_297 (fun _ _ hv => c_L_potential E.wf hfl hv) gL_areValues_L_potential rfl rfl rfl (by decide +kernel) ⟨Nat.le_of_ble_eq_true rfl, Nat.le_of_ble_eq_true rfl⟩ rfl (Nat.le_of_ble_eq_true rfl) ⟨by show _ ≤ 788; omega, by show _ ≤ 27856; omega⟩ (fun v51 s52 => ?_)
          refine G.aload_n E dL_areValues_300 0 rfl rfl ?_
          refine G.iload_n E dL_areValues_301 1 rfl rfl ?_
          refine G.iconst (v := 1) E dL_areValues_302 (by decide) ?_
          refine G.callWlW (mc := 1) (ms := 6) (rm := rm_L_potential) (n := 3) (As := [.ref (h 0), .int a1, .int 1]) (fun x => (x, ν)) E dL_areValues_303 (fun _ _ hv => c_L_potential E.wf hfl hv) gL_areValues_L_potential rfl rfl rfl (by decide +kernel) ⟨Nat.le_of_ble_eq_true rfl, Nat.le_of_ble_eq_true rfl⟩ rfl (Nat.le_of_ble_eq_true rfl) ⟨by show _ ≤ 788; omega, by show _ ≤ 27856; omega⟩ (fun v53 s54 => ?_)
          refine G.aload E dL_areValues_306 3 rfl ?_
          refine G.iload_n E dL_areValues_308 1 rfl rfl ?_
          refine G.ialdW (q0 := 67) (p0 := 9) (n := 7) ν E dL_areValues_309 (wsL_at67 _ _ _) (fun v55 => ?_)
          refine G.i2l E dL_areValues_310 ?_
          refine G.lconst (v := 1) E dL_areValues_311 (by decide) ?_
          refine G.callSi (mc := 0) (ms := 0) (rm := rm_L_is) (n := 4) (As := [.long v51, .long v53, .long (Int32.toInt64 v55), .long 1]) E dL_areValues_312 (fun _ hv => Con.inN E.wf (c_L_is (wfL_N E.wf) hv)) gL_areValues_L_is rfl rfl rfl (by decide +kernel) ⟨Nat.le_of_ble_eq_true rfl, Nat.le_of_ble_eq_true rfl⟩ rfl (Nat.le_of_ble_eq_true rfl) ⟨by show _ ≤ 788; omega, by show _ ≤ 27856; omega⟩ (fun v56 => ?_)
          refine G.if_eq (tgt := 322) E dL_areValues_315 (by decide) ?_ ?_
          · refine G.iconst (v := 0) E dL_areValues_322 (by decide) ?_
            refine G.widen (k1 := 788) (n1 := 27856) (by omega) (by omega) ?_
            exact G.zretc E dL_areValues_323 rfl rfl rfl
          · refine G.iconst (v := 1) E dL_areValues_318 (by decide) ?_
            refine G.goto (tgt := 323) E dL_areValues_319 (by decide) ?_
            refine G.widen (k1 := 788) (n1 := 27856) (by omega) (by omega) ?_
            exact G.zretc E dL_areValues_323 rfl rfl rfl
      · refine G.lconst (v := 0) E dL_areValues_324 (by decide) ?_
        refine G.lstore (lv' := [(12, .long 0), (0, .ref (h 0)), (1, .int a1), (2, .long a2), (4, .ref (h 67)), (5, .ref (h 58)), (6, .ref (h 59)), (7, .ref (h 60)), (8, .ref (h 61)), (9, .long v15)]) E dL_areValues_325 (by decide) rfl ?_
        refine G.iconst (v := 0) E dL_areValues_327 (by decide) ?_
        refine G.istore (lv' := [(14, .int 0), (12, .long 0), (0, .ref (h 0)), (1, .int a1), (2, .long a2), (4, .ref (h 67)), (5, .ref (h 58)), (6, .ref (h 59)), (7, .ref (h 60)), (8, .ref (h 61)), (9, .long v15)]) E dL_areValues_328 (by decide) rfl ?_
        refine G.widen (k1 := 672) (n1 := 23856) (by omega) (by omega) ?_
        refine G.loc [2, 3, 4, 5, 6, 7, 8, 9, 1, 0] rfl ?_
        refine gl_L_areValues_330 (cX := 686) (sX := 24353) E hfl (by omega) (by omega) (fun v30 => ?_) 8 672 23856 (by omega) (by omega) _ _
        refine G.aload_n E dL_areValues_391 0 rfl rfl ?_
        refine G.iload_n E dL_areValues_392 1 rfl rfl ?_
        refine G.iconst (v := 0) E dL_areValues_393 (by decide) ?_
        refine G.callWlW (mc := 1) (ms := 6) (rm := rm_L_potential) (n := 3) (As := [.ref (h 0), .int a1, .int 0]) (fun x => (x, ν)) E dL_areValues_394 (fun _ _ hv => c_L_potential E.wf hfl hv) gL_areValues_L_potential rfl rfl rfl (by decide +kernel) ⟨Nat.le_of_ble_eq_true rfl, Nat.le_of_ble_eq_true rfl⟩ rfl (Nat.le_of_ble_eq_true rfl) ⟨by show _ ≤ 788; omega, by show _ ≤ 27856; omega⟩ (fun v31 s32 => ?_)
        refine G.aload_n E dL_areValues_397 0 rfl rfl ?_
        refine G.iload_n E dL_areValues_398 1 rfl rfl ?_
        refine G.iconst (v := 1) E dL_areValues_399 (by decide) ?_
        refine G.callWlW (mc := 1) (ms := 6) (rm := rm_L_potential) (n := 3) (As := [.ref (h 0), .int a1, .int 1]) (fun x => (x, ν)) E dL_areValues_400 (fun _ _ hv => c_L_potential E.wf hfl hv) gL_areValues_L_potential rfl rfl rfl (by decide +kernel) ⟨Nat.le_of_ble_eq_true rfl, Nat.le_of_ble_eq_true rfl⟩ rfl (Nat.le_of_ble_eq_true rfl) ⟨by show _ ≤ 788; omega, by show _ ≤ 27856; omega⟩ (fun v33 s34 => ?_)
        refine G.lload E dL_areValues_403 3 rfl ?_
        refine G.lload_n E dL_areValues_405 2 rfl rfl ?_
        refine G.callSi (mc := 0) (ms := 0) (rm := rm_L_is) (n := 4) (As := [.long v31, .long v33, .long v30, .long a2]) E dL_areValues_406 (fun _ hv => Con.inN E.wf (c_L_is (wfL_N E.wf) hv)) gL_areValues_L_is rfl rfl rfl (by decide +kernel) ⟨Nat.le_of_ble_eq_true rfl, Nat.le_of_ble_eq_true rfl⟩ rfl (Nat.le_of_ble_eq_true rfl) ⟨by show _ ≤ 788; omega, by show _ ≤ 27856; omega⟩ (fun v35 => ?_)
        refine G.if_eq (tgt := 429) E dL_areValues_409 (by decide) ?_ ?_
        · refine G.iconst (v := 0) E dL_areValues_429 (by decide) ?_
          refine G.widen (k1 := 788) (n1 := 27856) (by omega) (by omega) ?_
          exact G.zretc E dL_areValues_430 rfl rfl rfl
        · refine G.aload_n E dL_areValues_412 0 rfl rfl ?_
          refine G.iload_n E dL_areValues_413 1 rfl rfl ?_
          refine G.iconst (v := 1) E dL_areValues_414 (by decide) ?_
          refine G.callWlW (mc := 1) (ms := 6) (rm := rm_L_current) (n := 3) (As := [.ref (h 0), .int a1, .int 1]) (fun x => (x, ν)) E dL_areValues_415 (fun _ _ hv => c_L_current E.wf hfl hv) gL_areValues_L_current rfl rfl rfl (by decide +kernel) ⟨Nat.le_of_ble_eq_true rfl, Nat.le_of_ble_eq_true rfl⟩ rfl (Nat.le_of_ble_eq_true rfl) ⟨by show _ ≤ 788; omega, by show _ ≤ 27856; omega⟩ (fun v36 s37 => ?_)
          refine G.ldc2w (v := -9200000000000000001) E dL_areValues_418 (List.mem_of_getElem? (i := 1) rfl) ?_
          refine G.lcmp E dL_areValues_421 ?_
          refine G.if_ne (tgt := 429) E dL_areValues_422 (by decide) ?_ ?_
          · refine G.iconst (v := 1) E dL_areValues_425 (by decide) ?_
            refine G.goto (tgt := 430) E dL_areValues_426 (by decide) ?_
            refine G.widen (k1 := 788) (n1 := 27856) (by omega) (by omega) ?_
            exact G.zretc E dL_areValues_430 rfl rfl rfl
          · refine G.iconst (v := 0) E dL_areValues_429 (by decide) ?_
            refine G.widen (k1 := 788) (n1 := 27856) (by omega) (by omega) ?_
            exact G.zretc E dL_areValues_430 rfl rfl rfl
abbrev rm_L_isTold : Room := { frames := 19, cells := 886, slots := 30568, locals := 488 }
noncomputable def f_L_isTold (N : Nat) (γ : Wd) (ν : Wd) (a1 : Int32) : Option (Int32 × Wd) :=
  bP (f_L_rest N ν) fun v1 =>
  rI ν 0 6 1 fun v2 =>
  jn (fun (v3 : Int64) => ((
    bP (f_X7_nodes N γ) fun v4 =>
    rI ν 0 6 1 fun v5 =>
    if v4 = v5 then (
      bP (f_X7_wires N γ) fun v6 =>
      rI ν 0 6 4 fun v7 =>
      if v6 = v7 then (
        bS (f_X7_rest N γ) fun v8 s9 =>
        if (lg_cmp v8 v1) = 0 then (
          bS (f_X7_trees N s9) fun v10 s11 =>
          if (lg_cmp v10 v3) = 0 then (
            bS (f_X7_treesAnew N s11) fun v12 s13 =>
            if (lg_cmp v12 v3) = 0 then (
              bP (f_L_low N a1 20) fun v14 =>
              rI ν 0 6 4 fun v15 =>
              jn (fun (v16 : Int32) => ((
                bS (f_L_wireIs N s13 v14 0) fun v17 s18 =>
                jn (fun (v19 : Int32) => ((
                  if v17 = v19 then (
                    bS (f_L_wireIs N s18 v14 1) fun v20 s21 =>
                    jn (fun (v22 : Int32) => ((
                      if v20 = v22 then (
                        bS (f_L_wireIs N s21 v14 2) fun v23 s24 =>
                        jn (fun (v25 : Int32) => ((
                          if v23 = v25 then (
                            bP (f_L_low N (a1 >>> (2 &&& 31)) 7) fun v26 =>
                            bP (f_L_low N (a1 >>> (6 &&& 31)) 7) fun v27 =>
                            bP (f_L_low N (a1 >>> (10 &&& 31)) 7) fun v28 =>
                            rI ν 0 6 1 fun v29 =>
                            rI ν 0 6 2 fun v30 =>
                            jn (fun (v31 : Int32) => ((
                              jn (fun (s32 : Wd) => ((
                                rI ν 0 6 1 fun v33 =>
                                jn (fun (v34 : Int32) => ((
                                  jn (fun (s35 : Wd) => ((
                                    bS (f_L_areValues N s35 ν v26 v1) fun v36 s37 =>
                                    if v36 = 0 then (
                                      some (0, s37))
                                    else (
                                      bS (f_L_isStarred N s37 ν v27 v3 v1) fun v38 s39 =>
                                      if v38 = 0 then (
                                        some (0, s39))
                                      else (
                                        some (1, s39)))) : Option (Int32 × Wd))) fun j628 =>
                                  if v34 = 0 then (
                                    bS (f_L_distance N s32 v26 v27 1) fun v40 s41 =>
                                    if (lg_cmp v40 (-9200000000000000001)) = 0 then (
                                      bS (f_L_chance N s41 v26 v27 v27 1) fun v42 s43 =>
                                      if (lg_cmp v42 (-9200000000000000001)) = 0 then (
                                        j628 s43)
                                      else (
                                        some (0, s43)))
                                    else (
                                      some (0, s41)))
                                  else (
                                    rI ν 0 6 1 fun v44 =>
                                    bP (f_L_minor N ν (v44 &&& (((1 <<< (v26 &&& 31)) ||| (1 <<< (v27 &&& 31))) ^^^ (-1))) (-1) (-1)) fun v45 =>
                                    bS (f_L_distance N s32 v26 v27 0) fun v46 s47 =>
                                    bS (f_L_distance N s47 v26 v27 1) fun v48 s49 =>
                                    jn (fun (v50 : Int64) => ((
                                      jn (fun (v51 : Int64) => ((
                                        bP (f_L_is N v46 v48 v50 v51) fun v52 =>
                                        if v52 = 0 then (
                                          some (0, s49))
                                        else (
                                          jn (fun (s53 : Wd) => ((
                                            j628 s53) : Option (Int32 × Wd))) fun j589 =>
                                          if v26 = v27 then (
                                            j589 s49)
                                          else (
                                            rI ν 0 6 1 fun v54 =>
                                            if ((v54 >>> (v28 &&& 31)) &&& 1) = 1 then (
                                              jn (fun (v55 : Int64) => ((
                                                bS (f_L_chance N s49 v28 v26 v27 0) fun v56 s57 =>
                                                bS (f_L_chance N s57 v28 v26 v27 1) fun v58 s59 =>
                                                bP (f_L_is N v56 v58 v55 v45) fun v60 =>
                                                if v60 = 0 then (
                                                  some (0, s59))
                                                else (
                                                  j589 s59)) : Option (Int32 × Wd))) fun j553 =>
                                              if v28 = v26 then (
                                                j553 v45)
                                              else (
                                                if v28 = v27 then (
                                                  j553 0)
                                                else (
                                                  rI ν 0 6 1 fun v61 =>
                                                  bP (f_L_minor N ν (v61 &&& (((1 <<< (v26 &&& 31)) ||| (1 <<< (v27 &&& 31))) ^^^ (-1))) v28 v26) fun v62 =>
                                                  j553 v62)))
                                            else (
                                              j589 s49)))) : Option (Int32 × Wd))) fun j474 =>
                                      if v26 = v27 then (
                                        j474 1)
                                      else (
                                        j474 v3)) : Option (Int32 × Wd))) fun j461 =>
                                    if v26 = v27 then (
                                      j461 0)
                                    else (
                                      j461 v45))) : Option (Int32 × Wd))) fun j394 =>
                                jn (fun (_u : Unit) => ((
                                  j394 0) : Option (Int32 × Wd))) fun j393 =>
                                if ((v33 >>> (v26 &&& 31)) &&& 1) = 1 then (
                                  rI ν 0 6 1 fun v63 =>
                                  if ((v63 >>> (v27 &&& 31)) &&& 1) = 1 then (
                                    j394 1)
                                  else (
                                    j393 ()))
                                else (
                                  j393 ())) : Option (Int32 × Wd))) fun j365 =>
                              if v31 = 0 then (
                                bS (f_L_answer N s24 v26 v27 1) fun v72 s73 =>
                                if (lg_cmp v72 (-9200000000000000001)) = 0 then (
                                  j365 s73)
                                else (
                                  some (0, s73)))
                              else (
                                if v26 = v27 then (
                                  bS (f_L_answer N s24 v26 v27 1) fun v70 s71 =>
                                  if (lg_cmp v70 (-9200000000000000002)) = 0 then (
                                    j365 s71)
                                  else (
                                    some (0, s71)))
                                else (
                                  bS (f_L_answer N s24 v26 v27 0) fun v64 s65 =>
                                  bS (f_L_answer N s65 v26 v27 1) fun v66 s67 =>
                                  bP (f_L_pair N ν v26 v27) fun v68 =>
                                  bP (f_L_is N v64 v66 v68 v1) fun v69 =>
                                  if v69 = 0 then (
                                    some (0, s67))
                                  else (
                                    j365 s67)))) : Option (Int32 × Wd))) fun j271 =>
                            jn (fun (_u : Unit) => ((
                              j271 0) : Option (Int32 × Wd))) fun j270 =>
                            if ((v29 &&& v30) &&& (1 <<< (v26 &&& 31))) ≤ 0 then (
                              j270 ())
                            else (
                              rI ν 0 6 1 fun v74 =>
                              rI ν 0 6 2 fun v75 =>
                              if ((v74 &&& v75) &&& (1 <<< (v27 &&& 31))) ≤ 0 then (
                                j270 ())
                              else (
                                j271 1)))
                          else (
                            some (0, s24))) : Option (Int32 × Wd))) fun j199 =>
                        if v16 = 0 then (
                          j199 (-7100))
                        else (
                          rI ν 3 20 v14 fun v76 =>
                          j199 v76))
                      else (
                        some (0, s21))) : Option (Int32 × Wd))) fun j173 =>
                    if v16 = 0 then (
                      j173 (-7100))
                    else (
                      rI ν 2 20 v14 fun v77 =>
                      j173 v77))
                  else (
                    some (0, s18))) : Option (Int32 × Wd))) fun j147 =>
                if v16 = 0 then (
                  j147 (-7100))
                else (
                  rI ν 1 20 v14 fun v78 =>
                  j147 v78)) : Option (Int32 × Wd))) fun j122 =>
              if ((v15 >>> (v14 &&& 31)) &&& 1) = 1 then (
                j122 1)
              else (
                j122 0))
            else (
              some (0, s13)))
          else (
            some (0, s11)))
        else (
          some (0, s9)))
      else (
        some (0, γ)))
    else (
      some (0, γ))) : Option (Int32 × Wd))) fun j43 =>
  if v2 = 0 then (
    j43 0)
  else (
    rI ν 0 6 1 fun v79 =>
    rI ν 0 6 1 fun v80 =>
    bP (f_L_minor N ν (v79 &&& (v80 - 1)) (-1) (-1)) fun v81 =>
    j43 v81)
set_option maxHeartbeats 4000000 in
set_option maxRecDepth 100000 in
theorem c_L_isTold {l : Launch} {D : va_G} {cy : Nat → ClassId} {h : Nat → Nat} {N : Nat} {γ : Wd} {ν : Wd} {a1 : Int32} {r : Int32} {γ1 : Wd} (hW : WF (wsL cy h) (adL h)) (hfl : l.stackTraces = false) (hr : f_L_isTold N γ ν a1 = some (r, γ1)) : Con l D cy (wsL cy h) (adL h) yL_isTold wsL_isTold rm_L_isTold 886 30568 [.ref (h 0), .int a1, .ref (h 67), .ref (h 58), .ref (h 59), .ref (h 60), .ref (h 61)] (some (.int r)) (γ, ν) (γ1, ν) := by
  refine Con.ofM (ρ := Int32 × Wd) (lv0 := [(0, .ref (h 0)), (1, .int a1), (2, .ref (h 67)), (3, .ref (h 58)), (4, .ref (h 59)), (5, .ref (h 60)), (6, .ref (h 61))]) (σ := (γ, ν)) (mc := 886) (ms := 30568) (fun r : Int32 × Wd => some (.int r.1)) (fun r => (r.2, ν)) (by decide) rfl rfl (Nat.le_of_ble_eq_true rfl) rfl hW hr (fun p e s m args below meth c E => ?_)
  unfold f_L_isTold
  refine G.aload_n E dL_isTold_0 3 rfl rfl ?_
  refine G.aload E dL_isTold_1 4 rfl ?_
  refine G.aload E dL_isTold_3 5 rfl ?_
  refine G.aload E dL_isTold_5 6 rfl ?_
  refine G.callSl (mc := 2) (ms := 71) (rm := rm_L_rest) (n := 4) (As := [.ref (h 58), .ref (h 59), .ref (h 60), .ref (h 61)]) E dL_isTold_7 (fun _ hv => Con.inN E.wf (c_L_rest (wfL_N E.wf) hv)) gL_isTold_L_rest rfl rfl rfl (by decide +kernel) ⟨Nat.le_of_ble_eq_true rfl, Nat.le_of_ble_eq_true rfl⟩ rfl (Nat.le_of_ble_eq_true rfl) ⟨by show _ ≤ 886; omega, by show _ ≤ 30568; omega⟩ (fun v1 => ?_)
  refine G.lstore (lv' := [(7, .long v1), (0, .ref (h 0)), (1, .int a1), (2, .ref (h 67)), (3, .ref (h 58)), (4, .ref (h 59)), (5, .ref (h 60)), (6, .ref (h 61))]) E dL_isTold_10 (by decide) rfl ?_
  refine G.aload_n E dL_isTold_12 4 rfl rfl ?_
  refine G.iconst (v := 1) E dL_isTold_13 (by decide) ?_
  refine G.ialdW (q0 := 58) (p0 := 0) (n := 6) ν E dL_isTold_14 (wsL_at58 _ _ _) (fun v2 => ?_)
  refine G.jn (P := fun j => ∀ (v3 : Int64), G p l e (headSpec wsL_isTold rm_L_isTold).room s m args below meth c 22 4 142 D (wsL cy h) (adL h) (QM D (wsL cy h) (adL h) below args s 886 30568 (fun r : Int32 × Wd => some (.int r.1)) (fun r => (r.2, ν))) 43 [(0, .ref (h 0)), (1, .int a1), (2, .ref (h 67)), (3, .ref (h 58)), (4, .ref (h 59)), (5, .ref (h 60)), (6, .ref (h 61)), (7, .long v1)] [.long v3] (γ, ν) (j v3)) ?_ (fun j43 hj43 => ?_)
  · intro v3
    refine G.lstore (lv' := [(9, .long v3), (0, .ref (h 0)), (1, .int a1), (2, .ref (h 67)), (3, .ref (h 58)), (4, .ref (h 59)), (5, .ref (h 60)), (6, .ref (h 61)), (7, .long v1)]) E dL_isTold_43 (by decide) rfl ?_
    refine G.aload_n E dL_isTold_45 1 rfl rfl ?_
    refine G.callVi (mc := 0) (ms := 0) (rm := rm_X7_nodes) (n := 0) (T := TX7) (N := 7) (C := RX7) (a := h 0) (q0 := 0) (As := []) E dL_isTold_46 (fun _ hv => Con.inC E.wf (c_X7_nodes (wfL_C E.wf) hv)) gL_isTold_X7_nodes rfl rfl rfl (by decide +kernel) ⟨Nat.le_of_ble_eq_true rfl, Nat.le_of_ble_eq_true rfl⟩ ((wsL_at0 _ _ _).trans (wsC_at0 _ _ _)) rfl rfl (Nat.le_of_ble_eq_true rfl) ⟨by show _ ≤ 886; omega, by show _ ≤ 30568; omega⟩ (fun v4 => ?_)
    refine G.aload_n E dL_isTold_49 4 rfl rfl ?_
    refine G.iconst (v := 1) E dL_isTold_50 (by decide) ?_
    refine G.ialdW (q0 := 58) (p0 := 0) (n := 6) ν E dL_isTold_51 (wsL_at58 _ _ _) (fun v5 => ?_)
    refine G.icmp_ne (tgt := 95) E dL_isTold_52 (by decide) ?_ ?_
    · refine G.aload_n E dL_isTold_55 1 rfl rfl ?_
      refine G.callVi (mc := 0) (ms := 0) (rm := rm_X7_wires) (n := 0) (T := TX7) (N := 7) (C := RX7) (a := h 0) (q0 := 0) (As := []) E dL_isTold_56 (fun _ hv => Con.inC E.wf (c_X7_wires (wfL_C E.wf) hv)) gL_isTold_X7_wires rfl rfl rfl (by decide +kernel) ⟨Nat.le_of_ble_eq_true rfl, Nat.le_of_ble_eq_true rfl⟩ ((wsL_at0 _ _ _).trans (wsC_at0 _ _ _)) rfl rfl (Nat.le_of_ble_eq_true rfl) ⟨by show _ ≤ 886; omega, by show _ ≤ 30568; omega⟩ (fun v6 => ?_)
      refine G.aload_n E dL_isTold_59 4 rfl rfl ?_
      refine G.iconst (v := 4) E dL_isTold_60 (by decide) ?_
      refine G.ialdW (q0 := 58) (p0 := 0) (n := 6) ν E dL_isTold_61 (wsL_at58 _ _ _) (fun v7 => ?_)
      refine G.icmp_ne (tgt := 95) E dL_isTold_62 (by decide) ?_ ?_
      · refine G.aload_n E dL_isTold_65 1 rfl rfl ?_
        refine G.callVlW (mc := 0) (ms := 0) (rm := rm_X7_rest) (n := 0) (T := TX7) (N := 7) (C := RX7) (a := h 0) (q0 := 0) (As := []) (fun x => (x, ν)) E dL_isTold_66 (fun _ _ hv => Con.inC E.wf (c_X7_rest (wfL_C E.wf) hv)) gL_isTold_X7_rest rfl rfl rfl (by decide +kernel) ⟨Nat.le_of_ble_eq_true rfl, Nat.le_of_ble_eq_true rfl⟩ ((wsL_at0 _ _ _).trans (wsC_at0 _ _ _)) rfl rfl (Nat.le_of_ble_eq_true rfl) ⟨by show _ ≤ 886; omega, by show _ ≤ 30568; omega⟩ (fun v8 s9 => ?_)
        refine G.lload E dL_isTold_69 8 rfl ?_
        refine G.lcmp E dL_isTold_71 ?_
        refine G.if_ne (tgt := 95) E dL_isTold_72 (by decide) ?_ ?_
        · refine G.aload_n E dL_isTold_75 1 rfl rfl ?_
          refine G.callVlW (mc := 0) (ms := 0) (rm := rm_X7_trees) (n := 0) (T := TX7) (N := 7) (C := RX7) (a := h 0) (q0 := 0) (As := []) (fun x => (x, ν)) E dL_isTold_76 (fun _ _ hv => Con.inC E.wf (c_X7_trees (wfL_C E.wf) hv)) gL_isTold_X7_trees rfl rfl rfl (by decide +kernel) ⟨Nat.le_of_ble_eq_true rfl, Nat.le_of_ble_eq_true rfl⟩ ((wsL_at0 _ _ _).trans (wsC_at0 _ _ _)) rfl rfl (Nat.le_of_ble_eq_true rfl) ⟨by show _ ≤ 886; omega, by show _ ≤ 30568; omega⟩ (fun v10 s11 => ?_)
          refine G.lload E dL_isTold_79 0 rfl ?_
          refine G.lcmp E dL_isTold_81 ?_
          refine G.if_ne (tgt := 95) E dL_isTold_82 (by decide) ?_ ?_
          · refine G.aload_n E dL_isTold_85 1 rfl rfl ?_
            refine G.callVlW (mc := 0) (ms := 0) (rm := rm_X7_treesAnew) (n := 0) (T := TX7) (N := 7) (C := RX7) (a := h 0) (q0 := 0) (As := []) (fun x => (x, ν)) E dL_isTold_86 (fun _ _ hv => Con.inC E.wf (c_X7_treesAnew (wfL_C E.wf) hv)) gL_isTold_X7_treesAnew rfl rfl rfl (by decide +kernel) ⟨Nat.le_of_ble_eq_true rfl, Nat.le_of_ble_eq_true rfl⟩ ((wsL_at0 _ _ _).trans (wsC_at0 _ _ _)) rfl rfl (Nat.le_of_ble_eq_true rfl) ⟨by show _ ≤ 886; omega, by show _ ≤ 30568; omega⟩ (fun v12 s13 => ?_)
            refine G.lload E dL_isTold_89 0 rfl ?_
            refine G.lcmp E dL_isTold_91 ?_
            refine G.if_eq (tgt := 97) E dL_isTold_92 (by decide) ?_ ?_
            · refine G.iload_n E dL_isTold_97 2 rfl rfl ?_
              refine G.bipush (v := 20) E dL_isTold_98 (by decide) ?_
              refine G.callSi (mc := 0) (ms := 0) (rm := rm_L_low) (n := 2) (As := [.int a1, .int 20]) E dL_isTold_100 (fun _ hv => Con.inN E.wf (c_L_low (wfL_N E.wf) hv)) gL_isTold_L_low rfl rfl rfl (by decide +kernel) ⟨Nat.le_of_ble_eq_true rfl, Nat.le_of_ble_eq_true rfl⟩ rfl (Nat.le_of_ble_eq_true rfl) ⟨by show _ ≤ 886; omega, by show _ ≤ 30568; omega⟩ (fun v14 => ?_)
              refine G.istore (lv' := [(11, .int v14), (9, .long v3), (0, .ref (h 0)), (1, .int a1), (2, .ref (h 67)), (3, .ref (h 58)), (4, .ref (h 59)), (5, .ref (h 60)), (6, .ref (h 61)), (7, .long v1)]) E dL_isTold_103 (by decide) rfl ?_
              refine G.aload_n E dL_isTold_105 5 rfl rfl ?_
              refine G.iconst (v := 4) E dL_isTold_106 (by decide) ?_
              refine G.ialdW (q0 := 58) (p0 := 0) (n := 6) ν E dL_isTold_107 (wsL_at58 _ _ _) (fun v15 => ?_)
              refine G.iload E dL_isTold_108 0 rfl ?_
              refine G.ishr E dL_isTold_110 ?_
              refine G.iconst (v := 1) E dL_isTold_111 (by decide) ?_
              refine G.iand E dL_isTold_112 ?_
              refine G.iconst (v := 1) E dL_isTold_113 (by decide) ?_
              refine G.jn (P := fun j => ∀ (v16 : Int32), G p l e (headSpec wsL_isTold rm_L_isTold).room s m args below meth c 22 4 142 D (wsL cy h) (adL h) (QM D (wsL cy h) (adL h) below args s 886 30568 (fun r : Int32 × Wd => some (.int r.1)) (fun r => (r.2, ν))) 122 [(0, .ref (h 0)), (1, .int a1), (2, .ref (h 67)), (3, .ref (h 58)), (4, .ref (h 59)), (5, .ref (h 60)), (6, .ref (h 61)), (7, .long v1), (9, .long v3), (11, .int v14)] [.int v16] (s13, ν) (j v16)) ?_ (fun j122 hj122 => ?_)
              · intro v16
                refine G.istore (lv' := [(12, .int v16), (0, .ref (h 0)), (1, .int a1), (2, .ref (h 67)), (3, .ref (h 58)), (4, .ref (h 59)), (5, .ref (h 60)), (6, .ref (h 61)), (7, .long v1), (9, .long v3), (11, .int v14)]) E dL_isTold_122 (by decide) rfl ?_
                refine G.aload_n E dL_isTold_124 1 rfl rfl ?_
                refine G.iload E dL_isTold_125 10 rfl ?_
                refine G.iconst (v := 0) E dL_isTold_127 (by decide) ?_
                refine G.callWiW (mc := 2) (ms := 12) (rm := rm_L_wireIs) (n := 3) (As := [.ref (h 0), .int v14, .int 0]) (fun x => (x, ν)) E dL_isTold_128 (fun _ _ hv => c_L_wireIs E.wf hfl hv) gL_isTold_L_wireIs rfl rfl rfl (by decide +kernel) ⟨Nat.le_of_ble_eq_true rfl, Nat.le_of_ble_eq_true rfl⟩ rfl (Nat.le_of_ble_eq_true rfl) ⟨by show _ ≤ 886; omega, by show _ ≤ 30568; omega⟩ (fun v17 s18 => ?_)
                refine G.iload E dL_isTold_131 0 rfl ?_
                refine G.jn (P := fun j => ∀ (v19 : Int32), G p l e (headSpec wsL_isTold rm_L_isTold).room s m args below meth c 22 6 154 D (wsL cy h) (adL h) (QM D (wsL cy h) (adL h) below args s 886 30568 (fun r : Int32 × Wd => some (.int r.1)) (fun r => (r.2, ν))) 147 [(0, .ref (h 0)), (1, .int a1), (2, .ref (h 67)), (3, .ref (h 58)), (4, .ref (h 59)), (5, .ref (h 60)), (6, .ref (h 61)), (7, .long v1), (9, .long v3), (11, .int v14), (12, .int v16)] [.int v19, .int v17] (s18, ν) (j v19)) ?_ (fun j147 hj147 => ?_)
                · intro v19
                  refine G.icmp_ne (tgt := 202) E dL_isTold_147 (by decide) ?_ ?_
                  · refine G.aload_n E dL_isTold_150 0 rfl rfl ?_
                    refine G.iload E dL_isTold_151 9 rfl ?_
                    refine G.iconst (v := 1) E dL_isTold_153 (by decide) ?_
                    refine G.callWiW (mc := 2) (ms := 12) (rm := rm_L_wireIs) (n := 3) (As := [.ref (h 0), .int v14, .int 1]) (fun x => (x, ν)) E dL_isTold_154 (fun _ _ hv => c_L_wireIs E.wf hfl hv) gL_isTold_L_wireIs rfl rfl rfl (by decide +kernel) ⟨Nat.le_of_ble_eq_true rfl, Nat.le_of_ble_eq_true rfl⟩ rfl (Nat.le_of_ble_eq_true rfl) ⟨by show _ ≤ 886; omega, by show _ ≤ 30568; omega⟩ (fun v20 s21 => ?_)
                    refine G.iload E dL_isTold_157 10 rfl ?_
                    refine G.jn (P := fun j => ∀ (v22 : Int32), G p l e (headSpec wsL_isTold rm_L_isTold).room s m args below meth c 22 8 166 D (wsL cy h) (adL h) (QM D (wsL cy h) (adL h) below args s 886 30568 (fun r : Int32 × Wd => some (.int r.1)) (fun r => (r.2, ν))) 173 [(0, .ref (h 0)), (1, .int a1), (2, .ref (h 67)), (3, .ref (h 58)), (4, .ref (h 59)), (5, .ref (h 60)), (6, .ref (h 61)), (7, .long v1), (9, .long v3), (11, .int v14), (12, .int v16)] [.int v22, .int v20] (s21, ν) (j v22)) ?_ (fun j173 hj173 => ?_)
                    · intro v22
                      refine G.icmp_ne (tgt := 202) E dL_isTold_173 (by decide) ?_ ?_
                      · refine G.aload_n E dL_isTold_176 0 rfl rfl ?_
                        refine G.iload E dL_isTold_177 9 rfl ?_
                        refine G.iconst (v := 2) E dL_isTold_179 (by decide) ?_
                        refine G.callWiW (mc := 2) (ms := 12) (rm := rm_L_wireIs) (n := 3) (As := [.ref (h 0), .int v14, .int 2]) (fun x => (x, ν)) E dL_isTold_180 (fun _ _ hv => c_L_wireIs E.wf hfl hv) gL_isTold_L_wireIs rfl rfl rfl (by decide +kernel) ⟨Nat.le_of_ble_eq_true rfl, Nat.le_of_ble_eq_true rfl⟩ rfl (Nat.le_of_ble_eq_true rfl) ⟨by show _ ≤ 886; omega, by show _ ≤ 30568; omega⟩ (fun v23 s24 => ?_)
                        refine G.iload E dL_isTold_183 10 rfl ?_
                        refine G.jn (P := fun j => ∀ (v25 : Int32), G p l e (headSpec wsL_isTold rm_L_isTold).room s m args below meth c 22 10 178 D (wsL cy h) (adL h) (QM D (wsL cy h) (adL h) below args s 886 30568 (fun r : Int32 × Wd => some (.int r.1)) (fun r => (r.2, ν))) 199 [(0, .ref (h 0)), (1, .int a1), (2, .ref (h 67)), (3, .ref (h 58)), (4, .ref (h 59)), (5, .ref (h 60)), (6, .ref (h 61)), (7, .long v1), (9, .long v3)] [.int v25, .int v23] (s24, ν) (j v25)) ?_ (fun j199 hj199 => ?_)
                        · intro v25
                          refine G.icmp_eq (tgt := 204) E dL_isTold_199 (by decide) ?_ ?_
                          · refine G.iload_n E dL_isTold_204 1 rfl rfl ?_
                            refine G.iconst (v := 2) E dL_isTold_205 (by decide) ?_
                            refine G.ishr E dL_isTold_206 ?_
                            refine G.bipush (v := 7) E dL_isTold_207 (by decide) ?_
                            refine G.callSi (mc := 0) (ms := 0) (rm := rm_L_low) (n := 2) (As := [.int (a1 >>> (2 &&& 31)), .int 7]) E dL_isTold_209 (fun _ hv => Con.inN E.wf (c_L_low (wfL_N E.wf) hv)) gL_isTold_L_low rfl rfl rfl (by decide +kernel) ⟨Nat.le_of_ble_eq_true rfl, Nat.le_of_ble_eq_true rfl⟩ rfl (Nat.le_of_ble_eq_true rfl) ⟨by show _ ≤ 886; omega, by show _ ≤ 30568; omega⟩ (fun v26 => ?_)
                            refine G.istore (lv' := [(13, .int v26), (0, .ref (h 0)), (1, .int a1), (2, .ref (h 67)), (3, .ref (h 58)), (4, .ref (h 59)), (5, .ref (h 60)), (6, .ref (h 61)), (7, .long v1), (9, .long v3)]) E dL_isTold_212 (by decide) rfl ?_
                            refine G.iload_n E dL_isTold_214 2 rfl rfl ?_
                            refine G.bipush (v := 6) E dL_isTold_215 (by decide) ?_
                            refine G.ishr E dL_isTold_217 ?_
                            refine G.bipush (v := 7) E dL_isTold_218 (by decide) ?_
                            refine G.callSi (mc := 0) (ms := 0) (rm := rm_L_low) (n := 2) (As := [.int (a1 >>> (6 &&& 31)), .int 7]) E dL_isTold_220 (fun _ hv => Con.inN E.wf (c_L_low (wfL_N E.wf) hv)) gL_isTold_L_low rfl rfl rfl (by decide +kernel) ⟨Nat.le_of_ble_eq_true rfl, Nat.le_of_ble_eq_true rfl⟩ rfl (Nat.le_of_ble_eq_true rfl) ⟨by show _ ≤ 886; omega, by show _ ≤ 30568; omega⟩ (fun v27 => ?_)
                            refine G.istore (lv' := [(14, .int v27), (13, .int v26), (0, .ref (h 0)), (1, .int a1), (2, .ref (h 67)), (3, .ref (h 58)), (4, .ref (h 59)), (5, .ref (h 60)), (6, .ref (h 61)), (7, .long v1), (9, .long v3)]) E dL_isTold_223 (by decide) rfl ?_
                            refine G.iload_n E dL_isTold_225 3 rfl rfl ?_
                            refine G.bipush (v := 10) E dL_isTold_226 (by decide) ?_
                            refine G.ishr E dL_isTold_228 ?_
                            refine G.bipush (v := 7) E dL_isTold_229 (by decide) ?_
                            refine G.callSi (mc := 0) (ms := 0) (rm := rm_L_low) (n := 2) (As := [.int (a1 >>> (10 &&& 31)), .int 7]) E dL_isTold_231 (fun _ hv => Con.inN E.wf (c_L_low (wfL_N E.wf) hv)) gL_isTold_L_low rfl rfl rfl (by decide +kernel) ⟨Nat.le_of_ble_eq_true rfl, Nat.le_of_ble_eq_true rfl⟩ rfl (Nat.le_of_ble_eq_true rfl) ⟨by show _ ≤ 886; omega, by show _ ≤ 30568; omega⟩ (fun v28 => ?_)
                            refine G.istore (lv' := [(15, .int v28), (14, .int v27), (13, .int v26), (0, .ref (h 0)), (1, .int a1), (2, .ref (h 67)), (3, .ref (h 58)), (4, .ref (h 59)), (5, .ref (h 60)), (6, .ref (h 61)), (7, .long v1), (9, .long v3)]) E dL_isTold_234 (by decide) rfl ?_
                            refine G.aload_n E dL_isTold_236 6 rfl rfl ?_
                            refine G.iconst (v := 1) E dL_isTold_237 (by decide) ?_
                            refine G.ialdW (q0 := 58) (p0 := 0) (n := 6) ν E dL_isTold_238 (wsL_at58 _ _ _) (fun v29 => ?_)
                            refine G.aload_n E dL_isTold_239 6 rfl rfl ?_
                            refine G.iconst (v := 2) E dL_isTold_240 (by decide) ?_
                            refine G.ialdW (q0 := 58) (p0 := 0) (n := 6) ν E dL_isTold_241 (wsL_at58 _ _ _) (fun v30 => ?_)
                            refine G.iand E dL_isTold_242 ?_
                            refine G.iconst (v := 1) E dL_isTold_243 (by decide) ?_
                            refine G.iload E dL_isTold_244 2 rfl ?_
                            refine G.ishl E dL_isTold_246 ?_
                            refine G.iand E dL_isTold_247 ?_
                            refine G.jn (P := fun j => ∀ (v31 : Int32), G p l e (headSpec wsL_isTold rm_L_isTold).room s m args below meth c 22 10 178 D (wsL cy h) (adL h) (QM D (wsL cy h) (adL h) below args s 886 30568 (fun r : Int32 × Wd => some (.int r.1)) (fun r => (r.2, ν))) 271 [(0, .ref (h 0)), (2, .ref (h 67)), (3, .ref (h 58)), (4, .ref (h 59)), (5, .ref (h 60)), (6, .ref (h 61)), (7, .long v1), (9, .long v3), (13, .int v26), (14, .int v27), (15, .int v28)] [.int v31] (s24, ν) (j v31)) ?_ (fun j271 hj271 => ?_)
                            · intro v31
                              refine G.istore (lv' := [(16, .int v31), (0, .ref (h 0)), (2, .ref (h 67)), (3, .ref (h 58)), (4, .ref (h 59)), (5, .ref (h 60)), (6, .ref (h 61)), (7, .long v1), (9, .long v3), (13, .int v26), (14, .int v27), (15, .int v28)]) E dL_isTold_271 (by decide) rfl ?_
                              refine G.iload E dL_isTold_273 0 rfl ?_
                              refine G.jn (P := fun j => ∀ (s32 : Wd), G p l e (headSpec wsL_isTold rm_L_isTold).room s m args below meth c 22 32 782 D (wsL cy h) (adL h) (QM D (wsL cy h) (adL h) below args s 886 30568 (fun r : Int32 × Wd => some (.int r.1)) (fun r => (r.2, ν))) 365 [(0, .ref (h 0)), (2, .ref (h 67)), (3, .ref (h 58)), (4, .ref (h 59)), (5, .ref (h 60)), (6, .ref (h 61)), (7, .long v1), (9, .long v3), (13, .int v26), (14, .int v27), (15, .int v28)] [] (s32, ν) (j s32)) ?_ (fun j365 hj365 => ?_)
                              · intro s32
                                refine G.aload_n E dL_isTold_365 2 rfl rfl ?_
                                refine G.iconst (v := 1) E dL_isTold_366 (by decide) ?_
                                refine G.ialdW (q0 := 58) (p0 := 0) (n := 6) ν E dL_isTold_367 (wsL_at58 _ _ _) (fun v33 => ?_)
                                refine G.iload E dL_isTold_368 8 rfl ?_
                                refine G.ishr E dL_isTold_370 ?_
                                refine G.iconst (v := 1) E dL_isTold_371 (by decide) ?_
                                refine G.iand E dL_isTold_372 ?_
                                refine G.iconst (v := 1) E dL_isTold_373 (by decide) ?_
                                refine G.jn (P := fun j => ∀ (v34 : Int32), G p l e (headSpec wsL_isTold rm_L_isTold).room s m args below meth c 22 32 782 D (wsL cy h) (adL h) (QM D (wsL cy h) (adL h) below args s 886 30568 (fun r : Int32 × Wd => some (.int r.1)) (fun r => (r.2, ν))) 394 [(0, .ref (h 0)), (2, .ref (h 67)), (3, .ref (h 58)), (4, .ref (h 59)), (5, .ref (h 60)), (6, .ref (h 61)), (7, .long v1), (9, .long v3), (13, .int v26), (14, .int v27), (15, .int v28)] [.int v34] (s32, ν) (j v34)) ?_ (fun j394 hj394 => ?_)
                                · intro v34
                                  refine G.istore (lv' := [(17, .int v34), (0, .ref (h 0)), (2, .ref (h 67)), (3, .ref (h 58)), (4, .ref (h 59)), (5, .ref (h 60)), (6, .ref (h 61)), (7, .long v1), (9, .long v3), (13, .int v26), (14, .int v27), (15, .int v28)]) E dL_isTold_394 (by decide) rfl ?_
                                  refine G.iload E dL_isTold_396 0 rfl ?_
                                  refine G.jn (P := fun j => ∀ (s35 : Wd), G p l e (headSpec wsL_isTold rm_L_isTold).room s m args below meth c 22 48 996 D (wsL cy h) (adL h) (QM D (wsL cy h) (adL h) below args s 886 30568 (fun r : Int32 × Wd => some (.int r.1)) (fun r => (r.2, ν))) 628 [(0, .ref (h 0)), (2, .ref (h 67)), (3, .ref (h 58)), (4, .ref (h 59)), (5, .ref (h 60)), (6, .ref (h 61)), (7, .long v1), (9, .long v3), (13, .int v26), (14, .int v27)] [] (s35, ν) (j s35)) ?_ (fun j628 hj628 => ?_)
                                  · intro s35
                                    refine G.aload_n E dL_isTold_628 0 rfl rfl ?_
                                    refine G.iload E dL_isTold_629 8 rfl ?_
                                    refine G.lload E dL_isTold_631 6 rfl ?_
                                    refine G.aload_n E dL_isTold_633 1 rfl rfl ?_
                                    refine G.aload_n E dL_isTold_634 2 rfl rfl ?_
                                    refine G.aload E dL_isTold_635 3 rfl ?_
                                    refine G.aload E dL_isTold_637 4 rfl ?_
                                    refine G.aload E dL_isTold_639 5 rfl ?_
                                    refine G.callSiW (mc := 788) (ms := 27856) (rm := rm_L_areValues) (n := 8) (As := [.ref (h 0), .int v26, .long v1, .ref (h 67), .ref (h 58), .ref (h 59), .ref (h 60), .ref (h 61)]) (fun x => (x, ν)) E dL_isTold_641 (fun _ _ hv => c_L_areValues E.wf hfl hv) gL_isTold_L_areValues rfl rfl rfl (by decide +kernel) ⟨Nat.le_of_ble_eq_true rfl, Nat.le_of_ble_eq_true rfl⟩ rfl (Nat.le_of_ble_eq_true rfl) ⟨by show _ ≤ 886; omega, by show _ ≤ 30568; omega⟩ (fun v36 s37 => ?_)
                                    refine G.if_eq (tgt := 671) E dL_isTold_644 (by decide) ?_ ?_
                                    · refine G.iconst (v := 0) E dL_isTold_671 (by decide) ?_
                                      refine G.widen (k1 := 886) (n1 := 30568) (by omega) (by omega) ?_
                                      exact G.zretc E dL_isTold_672 rfl rfl rfl
                                    · refine G.aload_n E dL_isTold_647 0 rfl rfl ?_
                                      refine G.iload E dL_isTold_648 9 rfl ?_
                                      refine G.lload E dL_isTold_650 7 rfl ?_
                                      refine G.lload E dL_isTold_652 6 rfl ?_
                                      refine G.aload_n E dL_isTold_654 2 rfl rfl ?_
                                      refine G.aload E dL_isTold_655 3 rfl ?_
                                      refine G.aload E dL_isTold_657 4 rfl ?_
                                      refine G.aload E dL_isTold_659 5 rfl ?_
                                      refine G.callSiW (mc := 50) (ms := 1716) (rm := rm_L_isStarred) (n := 8) (As := [.ref (h 0), .int v27, .long v3, .long v1, .ref (h 58), .ref (h 59), .ref (h 60), .ref (h 61)]) (fun x => (x, ν)) E dL_isTold_661 (fun _ _ hv => c_L_isStarred E.wf hfl hv) gL_isTold_L_isStarred rfl rfl rfl (by decide +kernel) ⟨Nat.le_of_ble_eq_true rfl, Nat.le_of_ble_eq_true rfl⟩ rfl (Nat.le_of_ble_eq_true rfl) ⟨by show _ ≤ 886; omega, by show _ ≤ 30568; omega⟩ (fun v38 s39 => ?_)
                                      refine G.if_eq (tgt := 671) E dL_isTold_664 (by decide) ?_ ?_
                                      · refine G.iconst (v := 0) E dL_isTold_671 (by decide) ?_
                                        refine G.widen (k1 := 886) (n1 := 30568) (by omega) (by omega) ?_
                                        exact G.zretc E dL_isTold_672 rfl rfl rfl
                                      · refine G.iconst (v := 1) E dL_isTold_667 (by decide) ?_
                                        refine G.goto (tgt := 672) E dL_isTold_668 (by decide) ?_
                                        refine G.widen (k1 := 886) (n1 := 30568) (by omega) (by omega) ?_
                                        exact G.zretc E dL_isTold_672 rfl rfl rfl
                                  · refine G.if_eq (tgt := 592) E dL_isTold_398 (by decide) ?_ ?_
                                    · refine G.aload_n E dL_isTold_592 1 rfl rfl ?_
                                      refine G.iload E dL_isTold_593 9 rfl ?_
                                      refine G.iload E dL_isTold_595 10 rfl ?_
                                      refine G.iconst (v := 1) E dL_isTold_597 (by decide) ?_
                                      refine G.callWlW (mc := 2) (ms := 12) (rm := rm_L_distance) (n := 4) (As := [.ref (h 0), .int v26, .int v27, .int 1]) (fun x => (x, ν)) E dL_isTold_598 (fun _ _ hv => c_L_distance E.wf hfl hv) gL_isTold_L_distance rfl rfl rfl (by decide +kernel) ⟨Nat.le_of_ble_eq_true rfl, Nat.le_of_ble_eq_true rfl⟩ rfl (Nat.le_of_ble_eq_true rfl) ⟨by show _ ≤ 886; omega, by show _ ≤ 30568; omega⟩ (fun v40 s41 => ?_)
                                      refine G.ldc2w (v := -9200000000000000001) E dL_isTold_601 (List.mem_of_getElem? (i := 1) rfl) ?_
                                      refine G.lcmp E dL_isTold_604 ?_
                                      refine G.if_ne (tgt := 626) E dL_isTold_605 (by decide) ?_ ?_
                                      · refine G.aload_n E dL_isTold_608 1 rfl rfl ?_
                                        refine G.iload E dL_isTold_609 9 rfl ?_
                                        refine G.iload E dL_isTold_611 10 rfl ?_
                                        refine G.iload E dL_isTold_613 10 rfl ?_
                                        refine G.iconst (v := 1) E dL_isTold_615 (by decide) ?_
                                        refine G.callWlW (mc := 4) (ms := 24) (rm := rm_L_chance) (n := 5) (As := [.ref (h 0), .int v26, .int v27, .int v27, .int 1]) (fun x => (x, ν)) E dL_isTold_616 (fun _ _ hv => c_L_chance E.wf hfl hv) gL_isTold_L_chance rfl rfl rfl (by decide +kernel) ⟨Nat.le_of_ble_eq_true rfl, Nat.le_of_ble_eq_true rfl⟩ rfl (Nat.le_of_ble_eq_true rfl) ⟨by show _ ≤ 886; omega, by show _ ≤ 30568; omega⟩ (fun v42 s43 => ?_)
                                        refine G.ldc2w (v := -9200000000000000001) E dL_isTold_619 (List.mem_of_getElem? (i := 1) rfl) ?_
                                        refine G.lcmp E dL_isTold_622 ?_
                                        refine G.if_eq (tgt := 628) E dL_isTold_623 (by decide) ?_ ?_
                                        · refine G.widen (k1 := 48) (n1 := 996) (by omega) (by omega) ?_
                                          refine G.loc [1, 2, 3, 4, 5, 6, 7, 8, 9, 10] rfl ?_
                                          exact hj628 s43
                                        · refine G.iconst (v := 0) E dL_isTold_626 (by decide) ?_
                                          refine G.widen (k1 := 886) (n1 := 30568) (by omega) (by omega) ?_
                                          exact G.zretc E dL_isTold_627 rfl rfl rfl
                                      · refine G.iconst (v := 0) E dL_isTold_626 (by decide) ?_
                                        refine G.widen (k1 := 886) (n1 := 30568) (by omega) (by omega) ?_
                                        exact G.zretc E dL_isTold_627 rfl rfl rfl
                                    · refine G.aload_n E dL_isTold_401 3 rfl rfl ?_
                                      refine G.iconst (v := 1) E dL_isTold_402 (by decide) ?_
                                      refine G.ialdW (q0 := 58) (p0 := 0) (n := 6) ν E dL_isTold_403 (wsL_at58 _ _ _) (fun v44 => ?_)
                                      refine G.iconst (v := 1) E dL_isTold_404 (by decide) ?_
                                      refine G.iload E dL_isTold_405 9 rfl ?_
                                      refine G.ishl E dL_isTold_407 ?_
                                      refine G.iconst (v := 1) E dL_isTold_408 (by decide) ?_
                                      refine G.iload E dL_isTold_409 10 rfl ?_
                                      refine G.ishl E dL_isTold_411 ?_
                                      refine G.ior E dL_isTold_412 ?_
                                      refine G.iconst (v := (-1)) E dL_isTold_413 (by decide) ?_
                                      refine G.ixor E dL_isTold_414 ?_
                                      refine G.iand E dL_isTold_415 ?_
                                      refine G.iconst (v := (-1)) E dL_isTold_416 (by decide) ?_
                                      refine G.iconst (v := (-1)) E dL_isTold_417 (by decide) ?_
                                      refine G.aload_n E dL_isTold_418 3 rfl rfl ?_
                                      refine G.aload E dL_isTold_419 4 rfl ?_
                                      refine G.aload E dL_isTold_421 5 rfl ?_
                                      refine G.aload E dL_isTold_423 6 rfl ?_
                                      refine G.callSl (mc := 2) (ms := 71) (rm := rm_L_minor) (n := 7) (As := [.int (v44 &&& (((1 <<< (v26 &&& 31)) ||| (1 <<< (v27 &&& 31))) ^^^ (-1))), .int (-1), .int (-1), .ref (h 58), .ref (h 59), .ref (h 60), .ref (h 61)]) E dL_isTold_425 (fun _ hv => Con.inN E.wf (c_L_minor (wfL_N E.wf) hv)) gL_isTold_L_minor rfl rfl rfl (by decide +kernel) ⟨Nat.le_of_ble_eq_true rfl, Nat.le_of_ble_eq_true rfl⟩ rfl (Nat.le_of_ble_eq_true rfl) ⟨by show _ ≤ 886; omega, by show _ ≤ 30568; omega⟩ (fun v45 => ?_)
                                      refine G.lstore (lv' := [(18, .long v45), (17, .int v34), (0, .ref (h 0)), (2, .ref (h 67)), (3, .ref (h 58)), (4, .ref (h 59)), (5, .ref (h 60)), (6, .ref (h 61)), (7, .long v1), (9, .long v3), (13, .int v26), (14, .int v27), (15, .int v28)]) E dL_isTold_428 (by decide) rfl ?_
                                      refine G.aload_n E dL_isTold_430 2 rfl rfl ?_
                                      refine G.iload E dL_isTold_431 10 rfl ?_
                                      refine G.iload E dL_isTold_433 11 rfl ?_
                                      refine G.iconst (v := 0) E dL_isTold_435 (by decide) ?_
                                      refine G.callWlW (mc := 2) (ms := 12) (rm := rm_L_distance) (n := 4) (As := [.ref (h 0), .int v26, .int v27, .int 0]) (fun x => (x, ν)) E dL_isTold_436 (fun _ _ hv => c_L_distance E.wf hfl hv) gL_isTold_L_distance rfl rfl rfl (by decide +kernel) ⟨Nat.le_of_ble_eq_true rfl, Nat.le_of_ble_eq_true rfl⟩ rfl (Nat.le_of_ble_eq_true rfl) ⟨by show _ ≤ 886; omega, by show _ ≤ 30568; omega⟩ (fun v46 s47 => ?_)
                                      refine G.aload_n E dL_isTold_439 2 rfl rfl ?_
                                      refine G.iload E dL_isTold_440 10 rfl ?_
                                      refine G.iload E dL_isTold_442 11 rfl ?_
                                      refine G.iconst (v := 1) E dL_isTold_444 (by decide) ?_
                                      refine G.callWlW (mc := 2) (ms := 12) (rm := rm_L_distance) (n := 4) (As := [.ref (h 0), .int v26, .int v27, .int 1]) (fun x => (x, ν)) E dL_isTold_445 (fun _ _ hv => c_L_distance E.wf hfl hv) gL_isTold_L_distance rfl rfl rfl (by decide +kernel) ⟨Nat.le_of_ble_eq_true rfl, Nat.le_of_ble_eq_true rfl⟩ rfl (Nat.le_of_ble_eq_true rfl) ⟨by show _ ≤ 886; omega, by show _ ≤ 30568; omega⟩ (fun v48 s49 => ?_)
                                      refine G.iload E dL_isTold_448 10 rfl ?_
                                      refine G.iload E dL_isTold_450 11 rfl ?_
                                      refine G.jn (P := fun j => ∀ (v50 : Int64), G p l e (headSpec wsL_isTold rm_L_isTold).room s m args below meth c 22 38 877 D (wsL cy h) (adL h) (QM D (wsL cy h) (adL h) below args s 886 30568 (fun r : Int32 × Wd => some (.int r.1)) (fun r => (r.2, ν))) 461 [(0, .ref (h 0)), (2, .ref (h 67)), (3, .ref (h 58)), (4, .ref (h 59)), (5, .ref (h 60)), (6, .ref (h 61)), (7, .long v1), (9, .long v3), (13, .int v26), (14, .int v27), (15, .int v28), (18, .long v45)] [.long v50, .long v48, .long v46] (s49, ν) (j v50)) ?_ (fun j461 hj461 => ?_)
                                      · intro v50
                                        refine G.iload E dL_isTold_461 8 rfl ?_
                                        refine G.iload E dL_isTold_463 9 rfl ?_
                                        refine G.jn (P := fun j => ∀ (v51 : Int64), G p l e (headSpec wsL_isTold rm_L_isTold).room s m args below meth c 22 38 877 D (wsL cy h) (adL h) (QM D (wsL cy h) (adL h) below args s 886 30568 (fun r : Int32 × Wd => some (.int r.1)) (fun r => (r.2, ν))) 474 [(0, .ref (h 0)), (2, .ref (h 67)), (3, .ref (h 58)), (4, .ref (h 59)), (5, .ref (h 60)), (6, .ref (h 61)), (7, .long v1), (9, .long v3), (13, .int v26), (14, .int v27), (15, .int v28), (18, .long v45)] [.long v51, .long v50, .long v48, .long v46] (s49, ν) (j v51)) ?_ (fun j474 hj474 => ?_)
                                        · intro v51
                                          refine G.callSi (mc := 0) (ms := 0) (rm := rm_L_is) (n := 4) (As := [.long v46, .long v48, .long v50, .long v51]) E dL_isTold_474 (fun _ hv => Con.inN E.wf (c_L_is (wfL_N E.wf) hv)) gL_isTold_L_is rfl rfl rfl (by decide +kernel) ⟨Nat.le_of_ble_eq_true rfl, Nat.le_of_ble_eq_true rfl⟩ rfl (Nat.le_of_ble_eq_true rfl) ⟨by show _ ≤ 886; omega, by show _ ≤ 30568; omega⟩ (fun v52 => ?_)
                                          refine G.if_ne (tgt := 482) E dL_isTold_477 (by decide) ?_ ?_
                                          · refine G.iconst (v := 0) E dL_isTold_480 (by decide) ?_
                                            refine G.widen (k1 := 886) (n1 := 30568) (by omega) (by omega) ?_
                                            exact G.zretc E dL_isTold_481 rfl rfl rfl
                                          · refine G.iload E dL_isTold_482 8 rfl ?_
                                            refine G.iload E dL_isTold_484 9 rfl ?_
                                            refine G.jn (P := fun j => ∀ (s53 : Wd), G p l e (headSpec wsL_isTold rm_L_isTold).room s m args below meth c 22 48 996 D (wsL cy h) (adL h) (QM D (wsL cy h) (adL h) below args s 886 30568 (fun r : Int32 × Wd => some (.int r.1)) (fun r => (r.2, ν))) 589 [(0, .ref (h 0)), (2, .ref (h 67)), (3, .ref (h 58)), (4, .ref (h 59)), (5, .ref (h 60)), (6, .ref (h 61)), (7, .long v1), (9, .long v3), (13, .int v26), (14, .int v27)] [] (s53, ν) (j s53)) ?_ (fun j589 hj589 => ?_)
                                            · intro s53
                                              refine G.goto (tgt := 628) E dL_isTold_589 (by decide) ?_
                                              refine G.widen (k1 := 48) (n1 := 996) (by omega) (by omega) ?_
                                              refine G.loc [0, 1, 2, 3, 4, 5, 6, 7, 8, 9] rfl ?_
                                              exact hj628 s53
                                            · refine G.icmp_eq (tgt := 589) E dL_isTold_486 (by decide) ?_ ?_
                                              · refine G.widen (k1 := 48) (n1 := 996) (by omega) (by omega) ?_
                                                refine G.loc [0, 1, 2, 3, 4, 5, 6, 7, 8, 9] rfl ?_
                                                exact hj589 s49
                                              · refine G.aload_n E dL_isTold_489 2 rfl rfl ?_
                                                refine G.iconst (v := 1) E dL_isTold_490 (by decide) ?_
                                                refine G.ialdW (q0 := 58) (p0 := 0) (n := 6) ν E dL_isTold_491 (wsL_at58 _ _ _) (fun v54 => ?_)
                                                refine G.iload E dL_isTold_492 10 rfl ?_
                                                refine G.ishr E dL_isTold_494 ?_
                                                refine G.iconst (v := 1) E dL_isTold_495 (by decide) ?_
                                                refine G.iand E dL_isTold_496 ?_
                                                refine G.iconst (v := 1) E dL_isTold_497 (by decide) ?_
                                                refine G.icmp_ne (tgt := 589) E dL_isTold_498 (by decide) ?_ ?_
                                                · refine G.iload E dL_isTold_501 10 rfl ?_
                                                  refine G.iload E dL_isTold_503 8 rfl ?_
                                                  refine G.jn (P := fun j => ∀ (v55 : Int64), G p l e (headSpec wsL_isTold rm_L_isTold).room s m args below meth c 22 40 948 D (wsL cy h) (adL h) (QM D (wsL cy h) (adL h) below args s 886 30568 (fun r : Int32 × Wd => some (.int r.1)) (fun r => (r.2, ν))) 553 [(0, .ref (h 0)), (2, .ref (h 67)), (3, .ref (h 58)), (4, .ref (h 59)), (5, .ref (h 60)), (6, .ref (h 61)), (7, .long v1), (9, .long v3), (13, .int v26), (14, .int v27), (15, .int v28), (18, .long v45)] [.long v55] (s49, ν) (j v55)) ?_ (fun j553 hj553 => ?_)
                                                  · intro v55
                                                    refine G.lstore (lv' := [(20, .long v55), (0, .ref (h 0)), (2, .ref (h 67)), (3, .ref (h 58)), (4, .ref (h 59)), (5, .ref (h 60)), (6, .ref (h 61)), (7, .long v1), (9, .long v3), (13, .int v26), (14, .int v27), (15, .int v28), (18, .long v45)]) E dL_isTold_553 (by decide) rfl ?_
                                                    refine G.aload_n E dL_isTold_555 1 rfl rfl ?_
                                                    refine G.iload E dL_isTold_556 11 rfl ?_
                                                    refine G.iload E dL_isTold_558 9 rfl ?_
                                                    refine G.iload E dL_isTold_560 10 rfl ?_
                                                    refine G.iconst (v := 0) E dL_isTold_562 (by decide) ?_
                                                    refine G.callWlW (mc := 4) (ms := 24) (rm := rm_L_chance) (n := 5) (As := [.ref (h 0), .int v28, .int v26, .int v27, .int 0]) (fun x => (x, ν)) E dL_isTold_563 (fun _ _ hv => c_L_chance E.wf hfl hv) gL_isTold_L_chance rfl rfl rfl (by decide +kernel) ⟨Nat.le_of_ble_eq_true rfl, Nat.le_of_ble_eq_true rfl⟩ rfl (Nat.le_of_ble_eq_true rfl) ⟨by show _ ≤ 886; omega, by show _ ≤ 30568; omega⟩ (fun v56 s57 => ?_)
                                                    refine G.aload_n E dL_isTold_566 1 rfl rfl ?_
                                                    refine G.iload E dL_isTold_567 11 rfl ?_
                                                    refine G.iload E dL_isTold_569 9 rfl ?_
                                                    refine G.iload E dL_isTold_571 10 rfl ?_
                                                    refine G.iconst (v := 1) E dL_isTold_573 (by decide) ?_
                                                    refine G.callWlW (mc := 4) (ms := 24) (rm := rm_L_chance) (n := 5) (As := [.ref (h 0), .int v28, .int v26, .int v27, .int 1]) (fun x => (x, ν)) E dL_isTold_574 (fun _ _ hv => c_L_chance E.wf hfl hv) gL_isTold_L_chance rfl rfl rfl (by decide +kernel) ⟨Nat.le_of_ble_eq_true rfl, Nat.le_of_ble_eq_true rfl⟩ rfl (Nat.le_of_ble_eq_true rfl) ⟨by show _ ≤ 886; omega, by show _ ≤ 30568; omega⟩ (fun v58 s59 => ?_)
                                                    refine G.lload E dL_isTold_577 0 rfl ?_
                                                    refine G.lload E dL_isTold_579 12 rfl ?_
                                                    refine G.callSi (mc := 0) (ms := 0) (rm := rm_L_is) (n := 4) (As := [.long v56, .long v58, .long v55, .long v45]) E dL_isTold_581 (fun _ hv => Con.inN E.wf (c_L_is (wfL_N E.wf) hv)) gL_isTold_L_is rfl rfl rfl (by decide +kernel) ⟨Nat.le_of_ble_eq_true rfl, Nat.le_of_ble_eq_true rfl⟩ rfl (Nat.le_of_ble_eq_true rfl) ⟨by show _ ≤ 886; omega, by show _ ≤ 30568; omega⟩ (fun v60 => ?_)
                                                    refine G.if_ne (tgt := 589) E dL_isTold_584 (by decide) ?_ ?_
                                                    · refine G.iconst (v := 0) E dL_isTold_587 (by decide) ?_
                                                      refine G.widen (k1 := 886) (n1 := 30568) (by omega) (by omega) ?_
                                                      exact G.zretc E dL_isTold_588 rfl rfl rfl
                                                    · refine G.widen (k1 := 48) (n1 := 996) (by omega) (by omega) ?_
                                                      refine G.loc [1, 2, 3, 4, 5, 6, 7, 8, 9, 10] rfl ?_
                                                      exact hj589 s59
                                                  · refine G.icmp_ne (tgt := 513) E dL_isTold_505 (by decide) ?_ ?_
                                                    · refine G.lload E dL_isTold_508 11 rfl ?_
                                                      refine G.goto (tgt := 553) E dL_isTold_510 (by decide) ?_
                                                      refine G.widen (k1 := 40) (n1 := 948) (by omega) (by omega) ?_
                                                      refine G.loc [0, 1, 2, 3, 4, 5, 6, 7, 8, 9, 10, 11] rfl ?_
                                                      exact hj553 v45
                                                    · refine G.iload E dL_isTold_513 10 rfl ?_
                                                      refine G.iload E dL_isTold_515 9 rfl ?_
                                                      refine G.icmp_ne (tgt := 524) E dL_isTold_517 (by decide) ?_ ?_
                                                      · refine G.lconst (v := 0) E dL_isTold_520 (by decide) ?_
                                                        refine G.goto (tgt := 553) E dL_isTold_521 (by decide) ?_
                                                        refine G.widen (k1 := 40) (n1 := 948) (by omega) (by omega) ?_
                                                        refine G.loc [0, 1, 2, 3, 4, 5, 6, 7, 8, 9, 10, 11] rfl ?_
                                                        exact hj553 0
                                                      · refine G.aload_n E dL_isTold_524 2 rfl rfl ?_
                                                        refine G.iconst (v := 1) E dL_isTold_525 (by decide) ?_
                                                        refine G.ialdW (q0 := 58) (p0 := 0) (n := 6) ν E dL_isTold_526 (wsL_at58 _ _ _) (fun v61 => ?_)
                                                        refine G.iconst (v := 1) E dL_isTold_527 (by decide) ?_
                                                        refine G.iload E dL_isTold_528 8 rfl ?_
                                                        refine G.ishl E dL_isTold_530 ?_
                                                        refine G.iconst (v := 1) E dL_isTold_531 (by decide) ?_
                                                        refine G.iload E dL_isTold_532 9 rfl ?_
                                                        refine G.ishl E dL_isTold_534 ?_
                                                        refine G.ior E dL_isTold_535 ?_
                                                        refine G.iconst (v := (-1)) E dL_isTold_536 (by decide) ?_
                                                        refine G.ixor E dL_isTold_537 ?_
                                                        refine G.iand E dL_isTold_538 ?_
                                                        refine G.iload E dL_isTold_539 10 rfl ?_
                                                        refine G.iload E dL_isTold_541 8 rfl ?_
                                                        refine G.aload_n E dL_isTold_543 2 rfl rfl ?_
                                                        refine G.aload E dL_isTold_544 3 rfl ?_
                                                        refine G.aload E dL_isTold_546 4 rfl ?_
                                                        refine G.aload E dL_isTold_548 5 rfl ?_
                                                        refine G.callSl (mc := 2) (ms := 71) (rm := rm_L_minor) (n := 7) (As := [.int (v61 &&& (((1 <<< (v26 &&& 31)) ||| (1 <<< (v27 &&& 31))) ^^^ (-1))), .int v28, .int v26, .ref (h 58), .ref (h 59), .ref (h 60), .ref (h 61)]) E dL_isTold_550 (fun _ hv => Con.inN E.wf (c_L_minor (wfL_N E.wf) hv)) gL_isTold_L_minor rfl rfl rfl (by decide +kernel) ⟨Nat.le_of_ble_eq_true rfl, Nat.le_of_ble_eq_true rfl⟩ rfl (Nat.le_of_ble_eq_true rfl) ⟨by show _ ≤ 886; omega, by show _ ≤ 30568; omega⟩ (fun v62 => ?_)
                                                        refine G.widen (k1 := 40) (n1 := 948) (by omega) (by omega) ?_
                                                        refine G.loc [0, 1, 2, 3, 4, 5, 6, 7, 8, 9, 10, 11] rfl ?_
                                                        exact hj553 v62
                                                · refine G.widen (k1 := 48) (n1 := 996) (by omega) (by omega) ?_
                                                  refine G.loc [0, 1, 2, 3, 4, 5, 6, 7, 8, 9] rfl ?_
                                                  exact hj589 s49
                                        · refine G.icmp_ne (tgt := 472) E dL_isTold_465 (by decide) ?_ ?_
                                          · refine G.lconst (v := 1) E dL_isTold_468 (by decide) ?_
                                            refine G.goto (tgt := 474) E dL_isTold_469 (by decide) ?_
                                            refine G.widen (k1 := 38) (n1 := 877) (by omega) (by omega) ?_
                                            refine G.loc [0, 1, 2, 3, 4, 5, 6, 7, 8, 9, 10, 11] rfl ?_
                                            exact hj474 1
                                          · refine G.lload E dL_isTold_472 7 rfl ?_
                                            refine G.widen (k1 := 38) (n1 := 877) (by omega) (by omega) ?_
                                            refine G.loc [0, 1, 2, 3, 4, 5, 6, 7, 8, 9, 10, 11] rfl ?_
                                            exact hj474 v3
                                      · refine G.icmp_ne (tgt := 459) E dL_isTold_452 (by decide) ?_ ?_
                                        · refine G.lconst (v := 0) E dL_isTold_455 (by decide) ?_
                                          refine G.goto (tgt := 461) E dL_isTold_456 (by decide) ?_
                                          refine G.widen (k1 := 38) (n1 := 877) (by omega) (by omega) ?_
                                          refine G.loc [2, 3, 4, 5, 6, 7, 8, 9, 10, 11, 12, 0] rfl ?_
                                          exact hj461 0
                                        · refine G.lload E dL_isTold_459 0 rfl ?_
                                          refine G.widen (k1 := 38) (n1 := 877) (by omega) (by omega) ?_
                                          refine G.loc [2, 3, 4, 5, 6, 7, 8, 9, 10, 11, 12, 0] rfl ?_
                                          exact hj461 v45
                                · refine G.jn (P := fun j => ∀ (_u : Unit), G p l e (headSpec wsL_isTold rm_L_isTold).room s m args below meth c 22 32 782 D (wsL cy h) (adL h) (QM D (wsL cy h) (adL h) below args s 886 30568 (fun r : Int32 × Wd => some (.int r.1)) (fun r => (r.2, ν))) 393 [(0, .ref (h 0)), (2, .ref (h 67)), (3, .ref (h 58)), (4, .ref (h 59)), (5, .ref (h 60)), (6, .ref (h 61)), (7, .long v1), (9, .long v3), (13, .int v26), (14, .int v27), (15, .int v28)] [] (s32, ν) (j _u)) ?_ (fun j393 hj393 => ?_)
                                  · intro _u
                                    refine G.iconst (v := 0) E dL_isTold_393 (by decide) ?_
                                    refine G.widen (k1 := 32) (n1 := 782) (by omega) (by omega) ?_
                                    refine G.loc [0, 1, 2, 3, 4, 5, 6, 7, 8, 9, 10] rfl ?_
                                    exact hj394 0
                                  · refine G.icmp_ne (tgt := 393) E dL_isTold_374 (by decide) ?_ ?_
                                    · refine G.aload_n E dL_isTold_377 2 rfl rfl ?_
                                      refine G.iconst (v := 1) E dL_isTold_378 (by decide) ?_
                                      refine G.ialdW (q0 := 58) (p0 := 0) (n := 6) ν E dL_isTold_379 (wsL_at58 _ _ _) (fun v63 => ?_)
                                      refine G.iload E dL_isTold_380 9 rfl ?_
                                      refine G.ishr E dL_isTold_382 ?_
                                      refine G.iconst (v := 1) E dL_isTold_383 (by decide) ?_
                                      refine G.iand E dL_isTold_384 ?_
                                      refine G.iconst (v := 1) E dL_isTold_385 (by decide) ?_
                                      refine G.icmp_ne (tgt := 393) E dL_isTold_386 (by decide) ?_ ?_
                                      · refine G.iconst (v := 1) E dL_isTold_389 (by decide) ?_
                                        refine G.goto (tgt := 394) E dL_isTold_390 (by decide) ?_
                                        refine G.widen (k1 := 32) (n1 := 782) (by omega) (by omega) ?_
                                        refine G.loc [0, 1, 2, 3, 4, 5, 6, 7, 8, 9, 10] rfl ?_
                                        exact hj394 1
                                      · refine G.widen (k1 := 32) (n1 := 782) (by omega) (by omega) ?_
                                        refine G.loc [0, 1, 2, 3, 4, 5, 6, 7, 8, 9, 10] rfl ?_
                                        exact hj393 ()
                                    · refine G.widen (k1 := 32) (n1 := 782) (by omega) (by omega) ?_
                                      refine G.loc [0, 1, 2, 3, 4, 5, 6, 7, 8, 9, 10] rfl ?_
                                      exact hj393 ()
                              · refine G.if_ne (tgt := 297) E dL_isTold_275 (by decide) ?_ ?_
                                · refine G.aload_n E dL_isTold_278 1 rfl rfl ?_
                                  refine G.iload E dL_isTold_279 9 rfl ?_
                                  refine G.iload E dL_isTold_281 10 rfl ?_
                                  refine G.iconst (v := 1) E dL_isTold_283 (by decide) ?_
                                  refine G.callWlW (mc := 3) (ms := 18) (rm := rm_L_answer) (n := 4) (As := [.ref (h 0), .int v26, .int v27, .int 1]) (fun x => (x, ν)) E dL_isTold_284 (fun _ _ hv => c_L_answer E.wf hfl hv) gL_isTold_L_answer rfl rfl rfl (by decide +kernel) ⟨Nat.le_of_ble_eq_true rfl, Nat.le_of_ble_eq_true rfl⟩ rfl (Nat.le_of_ble_eq_true rfl) ⟨by show _ ≤ 886; omega, by show _ ≤ 30568; omega⟩ (fun v72 s73 => ?_)
                                  refine G.ldc2w (v := -9200000000000000001) E dL_isTold_287 (List.mem_of_getElem? (i := 1) rfl) ?_
                                  refine G.lcmp E dL_isTold_290 ?_
                                  refine G.if_eq (tgt := 365) E dL_isTold_291 (by decide) ?_ ?_
                                  · refine G.widen (k1 := 32) (n1 := 782) (by omega) (by omega) ?_
                                    refine G.loc [1, 2, 3, 4, 5, 6, 7, 8, 9, 10, 11] rfl ?_
                                    exact hj365 s73
                                  · refine G.goto (tgt := 363) E dL_isTold_294 (by decide) ?_
                                    refine G.iconst (v := 0) E dL_isTold_363 (by decide) ?_
                                    refine G.widen (k1 := 886) (n1 := 30568) (by omega) (by omega) ?_
                                    exact G.zretc E dL_isTold_364 rfl rfl rfl
                                · refine G.iload E dL_isTold_297 9 rfl ?_
                                  refine G.iload E dL_isTold_299 10 rfl ?_
                                  refine G.icmp_ne (tgt := 323) E dL_isTold_301 (by decide) ?_ ?_
                                  · refine G.aload_n E dL_isTold_304 1 rfl rfl ?_
                                    refine G.iload E dL_isTold_305 9 rfl ?_
                                    refine G.iload E dL_isTold_307 10 rfl ?_
                                    refine G.iconst (v := 1) E dL_isTold_309 (by decide) ?_
                                    refine G.callWlW (mc := 3) (ms := 18) (rm := rm_L_answer) (n := 4) (As := [.ref (h 0), .int v26, .int v27, .int 1]) (fun x => (x, ν)) E dL_isTold_310 (fun _ _ hv => c_L_answer E.wf hfl hv) gL_isTold_L_answer rfl rfl rfl (by decide +kernel) ⟨Nat.le_of_ble_eq_true rfl, Nat.le_of_ble_eq_true rfl⟩ rfl (Nat.le_of_ble_eq_true rfl) ⟨by show _ ≤ 886; omega, by show _ ≤ 30568; omega⟩ (fun v70 s71 => ?_)
                                    refine G.ldc2w (v := -9200000000000000002) E dL_isTold_313 (List.mem_of_getElem? (i := 2) rfl) ?_
                                    refine G.lcmp E dL_isTold_316 ?_
                                    refine G.if_eq (tgt := 365) E dL_isTold_317 (by decide) ?_ ?_
                                    · refine G.widen (k1 := 32) (n1 := 782) (by omega) (by omega) ?_
                                      refine G.loc [1, 2, 3, 4, 5, 6, 7, 8, 9, 10, 11] rfl ?_
                                      exact hj365 s71
                                    · refine G.goto (tgt := 363) E dL_isTold_320 (by decide) ?_
                                      refine G.iconst (v := 0) E dL_isTold_363 (by decide) ?_
                                      refine G.widen (k1 := 886) (n1 := 30568) (by omega) (by omega) ?_
                                      exact G.zretc E dL_isTold_364 rfl rfl rfl
                                  · refine G.aload_n E dL_isTold_323 1 rfl rfl ?_
                                    refine G.iload E dL_isTold_324 9 rfl ?_
                                    refine G.iload E dL_isTold_326 10 rfl ?_
                                    refine G.iconst (v := 0) E dL_isTold_328 (by decide) ?_
                                    refine G.callWlW (mc := 3) (ms := 18) (rm := rm_L_answer) (n := 4) (As := [.ref (h 0), .int v26, .int v27, .int 0]) (fun x => (x, ν)) E dL_isTold_329 (fun _ _ hv => c_L_answer E.wf hfl hv) gL_isTold_L_answer rfl rfl rfl (by decide +kernel) ⟨Nat.le_of_ble_eq_true rfl, Nat.le_of_ble_eq_true rfl⟩ rfl (Nat.le_of_ble_eq_true rfl) ⟨by show _ ≤ 886; omega, by show _ ≤ 30568; omega⟩ (fun v64 s65 => ?_)
                                    refine G.aload_n E dL_isTold_332 1 rfl rfl ?_
                                    refine G.iload E dL_isTold_333 9 rfl ?_
                                    refine G.iload E dL_isTold_335 10 rfl ?_
                                    refine G.iconst (v := 1) E dL_isTold_337 (by decide) ?_
                                    refine G.callWlW (mc := 3) (ms := 18) (rm := rm_L_answer) (n := 4) (As := [.ref (h 0), .int v26, .int v27, .int 1]) (fun x => (x, ν)) E dL_isTold_338 (fun _ _ hv => c_L_answer E.wf hfl hv) gL_isTold_L_answer rfl rfl rfl (by decide +kernel) ⟨Nat.le_of_ble_eq_true rfl, Nat.le_of_ble_eq_true rfl⟩ rfl (Nat.le_of_ble_eq_true rfl) ⟨by show _ ≤ 886; omega, by show _ ≤ 30568; omega⟩ (fun v66 s67 => ?_)
                                    refine G.iload E dL_isTold_341 9 rfl ?_
                                    refine G.iload E dL_isTold_343 10 rfl ?_
                                    refine G.aload_n E dL_isTold_345 3 rfl rfl ?_
                                    refine G.aload E dL_isTold_346 4 rfl ?_
                                    refine G.aload E dL_isTold_348 5 rfl ?_
                                    refine G.aload E dL_isTold_350 6 rfl ?_
                                    refine G.callSl (mc := 16) (ms := 568) (rm := rm_L_pair) (n := 6) (As := [.int v26, .int v27, .ref (h 58), .ref (h 59), .ref (h 60), .ref (h 61)]) E dL_isTold_352 (fun _ hv => Con.inN E.wf (c_L_pair (wfL_N E.wf) hv)) gL_isTold_L_pair rfl rfl rfl (by decide +kernel) ⟨Nat.le_of_ble_eq_true rfl, Nat.le_of_ble_eq_true rfl⟩ rfl (Nat.le_of_ble_eq_true rfl) ⟨by show _ ≤ 886; omega, by show _ ≤ 30568; omega⟩ (fun v68 => ?_)
                                    refine G.lload E dL_isTold_355 7 rfl ?_
                                    refine G.callSi (mc := 0) (ms := 0) (rm := rm_L_is) (n := 4) (As := [.long v64, .long v66, .long v68, .long v1]) E dL_isTold_357 (fun _ hv => Con.inN E.wf (c_L_is (wfL_N E.wf) hv)) gL_isTold_L_is rfl rfl rfl (by decide +kernel) ⟨Nat.le_of_ble_eq_true rfl, Nat.le_of_ble_eq_true rfl⟩ rfl (Nat.le_of_ble_eq_true rfl) ⟨by show _ ≤ 886; omega, by show _ ≤ 30568; omega⟩ (fun v69 => ?_)
                                    refine G.if_ne (tgt := 365) E dL_isTold_360 (by decide) ?_ ?_
                                    · refine G.iconst (v := 0) E dL_isTold_363 (by decide) ?_
                                      refine G.widen (k1 := 886) (n1 := 30568) (by omega) (by omega) ?_
                                      exact G.zretc E dL_isTold_364 rfl rfl rfl
                                    · refine G.widen (k1 := 32) (n1 := 782) (by omega) (by omega) ?_
                                      refine G.loc [1, 2, 3, 4, 5, 6, 7, 8, 9, 10, 11] rfl ?_
                                      exact hj365 s67
                            · refine G.jn (P := fun j => ∀ (_u : Unit), G p l e (headSpec wsL_isTold rm_L_isTold).room s m args below meth c 22 10 178 D (wsL cy h) (adL h) (QM D (wsL cy h) (adL h) below args s 886 30568 (fun r : Int32 × Wd => some (.int r.1)) (fun r => (r.2, ν))) 270 [(0, .ref (h 0)), (2, .ref (h 67)), (3, .ref (h 58)), (4, .ref (h 59)), (5, .ref (h 60)), (6, .ref (h 61)), (7, .long v1), (9, .long v3), (13, .int v26), (14, .int v27), (15, .int v28)] [] (s24, ν) (j _u)) ?_ (fun j270 hj270 => ?_)
                              · intro _u
                                refine G.iconst (v := 0) E dL_isTold_270 (by decide) ?_
                                refine G.widen (k1 := 10) (n1 := 178) (by omega) (by omega) ?_
                                refine G.loc [0, 1, 2, 3, 4, 5, 6, 7, 8, 9, 10] rfl ?_
                                exact hj271 0
                              · refine G.if_le (tgt := 270) E dL_isTold_248 (by decide) ?_ ?_
                                · refine G.widen (k1 := 10) (n1 := 178) (by omega) (by omega) ?_
                                  refine G.loc [3, 5, 6, 7, 8, 9, 10, 11, 2, 1, 0] rfl ?_
                                  exact hj270 ()
                                · refine G.aload_n E dL_isTold_251 6 rfl rfl ?_
                                  refine G.iconst (v := 1) E dL_isTold_252 (by decide) ?_
                                  refine G.ialdW (q0 := 58) (p0 := 0) (n := 6) ν E dL_isTold_253 (wsL_at58 _ _ _) (fun v74 => ?_)
                                  refine G.aload_n E dL_isTold_254 6 rfl rfl ?_
                                  refine G.iconst (v := 2) E dL_isTold_255 (by decide) ?_
                                  refine G.ialdW (q0 := 58) (p0 := 0) (n := 6) ν E dL_isTold_256 (wsL_at58 _ _ _) (fun v75 => ?_)
                                  refine G.iand E dL_isTold_257 ?_
                                  refine G.iconst (v := 1) E dL_isTold_258 (by decide) ?_
                                  refine G.iload E dL_isTold_259 1 rfl ?_
                                  refine G.ishl E dL_isTold_261 ?_
                                  refine G.iand E dL_isTold_262 ?_
                                  refine G.if_le (tgt := 270) E dL_isTold_263 (by decide) ?_ ?_
                                  · refine G.widen (k1 := 10) (n1 := 178) (by omega) (by omega) ?_
                                    refine G.loc [3, 5, 6, 7, 8, 9, 10, 11, 2, 1, 0] rfl ?_
                                    exact hj270 ()
                                  · refine G.iconst (v := 1) E dL_isTold_266 (by decide) ?_
                                    refine G.goto (tgt := 271) E dL_isTold_267 (by decide) ?_
                                    refine G.widen (k1 := 10) (n1 := 178) (by omega) (by omega) ?_
                                    refine G.loc [3, 5, 6, 7, 8, 9, 10, 11, 2, 1, 0] rfl ?_
                                    exact hj271 1
                          · refine G.iconst (v := 0) E dL_isTold_202 (by decide) ?_
                            refine G.widen (k1 := 886) (n1 := 30568) (by omega) (by omega) ?_
                            exact G.zretc E dL_isTold_203 rfl rfl rfl
                        · refine G.if_eq (tgt := 196) E dL_isTold_185 (by decide) ?_ ?_
                          · refine G.sipush (v := (-7100)) E dL_isTold_196 (by decide) ?_
                            refine G.widen (k1 := 10) (n1 := 178) (by omega) (by omega) ?_
                            refine G.loc [0, 1, 2, 3, 4, 5, 6, 7, 8] rfl ?_
                            exact hj199 (-7100)
                          · refine G.aload E dL_isTold_188 6 rfl ?_
                            refine G.iload E dL_isTold_190 9 rfl ?_
                            refine G.ialdW (q0 := 61) (p0 := 3) (n := 20) ν E dL_isTold_192 (wsL_at61 _ _ _) (fun v76 => ?_)
                            refine G.goto (tgt := 199) E dL_isTold_193 (by decide) ?_
                            refine G.widen (k1 := 10) (n1 := 178) (by omega) (by omega) ?_
                            refine G.loc [0, 1, 2, 3, 4, 5, 6, 7, 8] rfl ?_
                            exact hj199 v76
                      · refine G.iconst (v := 0) E dL_isTold_202 (by decide) ?_
                        refine G.widen (k1 := 886) (n1 := 30568) (by omega) (by omega) ?_
                        exact G.zretc E dL_isTold_203 rfl rfl rfl
                    · refine G.if_eq (tgt := 170) E dL_isTold_159 (by decide) ?_ ?_
                      · refine G.sipush (v := (-7100)) E dL_isTold_170 (by decide) ?_
                        refine G.widen (k1 := 8) (n1 := 166) (by omega) (by omega) ?_
                        refine G.loc [0, 1, 2, 3, 4, 5, 6, 7, 8, 9, 10] rfl ?_
                        exact hj173 (-7100)
                      · refine G.aload E dL_isTold_162 5 rfl ?_
                        refine G.iload E dL_isTold_164 9 rfl ?_
                        refine G.ialdW (q0 := 60) (p0 := 2) (n := 20) ν E dL_isTold_166 (wsL_at60 _ _ _) (fun v77 => ?_)
                        refine G.goto (tgt := 173) E dL_isTold_167 (by decide) ?_
                        refine G.widen (k1 := 8) (n1 := 166) (by omega) (by omega) ?_
                        refine G.loc [0, 1, 2, 3, 4, 5, 6, 7, 8, 9, 10] rfl ?_
                        exact hj173 v77
                  · refine G.iconst (v := 0) E dL_isTold_202 (by decide) ?_
                    refine G.widen (k1 := 886) (n1 := 30568) (by omega) (by omega) ?_
                    exact G.zretc E dL_isTold_203 rfl rfl rfl
                · refine G.if_eq (tgt := 144) E dL_isTold_133 (by decide) ?_ ?_
                  · refine G.sipush (v := (-7100)) E dL_isTold_144 (by decide) ?_
                    refine G.widen (k1 := 6) (n1 := 154) (by omega) (by omega) ?_
                    refine G.loc [1, 2, 3, 4, 5, 6, 7, 8, 9, 10, 0] rfl ?_
                    exact hj147 (-7100)
                  · refine G.aload E dL_isTold_136 5 rfl ?_
                    refine G.iload E dL_isTold_138 10 rfl ?_
                    refine G.ialdW (q0 := 59) (p0 := 1) (n := 20) ν E dL_isTold_140 (wsL_at59 _ _ _) (fun v78 => ?_)
                    refine G.goto (tgt := 147) E dL_isTold_141 (by decide) ?_
                    refine G.widen (k1 := 6) (n1 := 154) (by omega) (by omega) ?_
                    refine G.loc [1, 2, 3, 4, 5, 6, 7, 8, 9, 10, 0] rfl ?_
                    exact hj147 v78
              · refine G.icmp_ne (tgt := 121) E dL_isTold_114 (by decide) ?_ ?_
                · refine G.iconst (v := 1) E dL_isTold_117 (by decide) ?_
                  refine G.goto (tgt := 122) E dL_isTold_118 (by decide) ?_
                  refine G.widen (k1 := 4) (n1 := 142) (by omega) (by omega) ?_
                  refine G.loc [2, 3, 4, 5, 6, 7, 8, 9, 1, 0] rfl ?_
                  exact hj122 1
                · refine G.iconst (v := 0) E dL_isTold_121 (by decide) ?_
                  refine G.widen (k1 := 4) (n1 := 142) (by omega) (by omega) ?_
                  refine G.loc [2, 3, 4, 5, 6, 7, 8, 9, 1, 0] rfl ?_
                  exact hj122 0
            · refine G.iconst (v := 0) E dL_isTold_95 (by decide) ?_
              refine G.widen (k1 := 886) (n1 := 30568) (by omega) (by omega) ?_
              exact G.zretc E dL_isTold_96 rfl rfl rfl
          · refine G.iconst (v := 0) E dL_isTold_95 (by decide) ?_
            refine G.widen (k1 := 886) (n1 := 30568) (by omega) (by omega) ?_
            exact G.zretc E dL_isTold_96 rfl rfl rfl
        · refine G.iconst (v := 0) E dL_isTold_95 (by decide) ?_
          refine G.widen (k1 := 886) (n1 := 30568) (by omega) (by omega) ?_
          exact G.zretc E dL_isTold_96 rfl rfl rfl
      · refine G.iconst (v := 0) E dL_isTold_95 (by decide) ?_
        refine G.widen (k1 := 886) (n1 := 30568) (by omega) (by omega) ?_
        exact G.zretc E dL_isTold_96 rfl rfl rfl
    · refine G.iconst (v := 0) E dL_isTold_95 (by decide) ?_
      refine G.widen (k1 := 886) (n1 := 30568) (by omega) (by omega) ?_
      exact G.zretc E dL_isTold_96 rfl rfl rfl
  · refine G.if_ne (tgt := 22) E dL_isTold_15 (by decide) ?_ ?_
    · refine G.lconst (v := 0) E dL_isTold_18 (by decide) ?_
      refine G.goto (tgt := 43) E dL_isTold_19 (by decide) ?_
      refine G.widen (k1 := 4) (n1 := 142) (by omega) (by omega) ?_
      refine G.loc [1, 2, 3, 4, 5, 6, 7, 0] rfl ?_
      exact hj43 0
    · refine G.aload_n E dL_isTold_22 4 rfl rfl ?_
      refine G.iconst (v := 1) E dL_isTold_23 (by decide) ?_
      refine G.ialdW (q0 := 58) (p0 := 0) (n := 6) ν E dL_isTold_24 (wsL_at58 _ _ _) (fun v79 => ?_)
      refine G.aload_n E dL_isTold_25 4 rfl rfl ?_
      refine G.iconst (v := 1) E dL_isTold_26 (by decide) ?_
      refine G.ialdW (q0 := 58) (p0 := 0) (n := 6) ν E dL_isTold_27 (wsL_at58 _ _ _) (fun v80 => ?_)
      refine G.iconst (v := 1) E dL_isTold_28 (by decide) ?_
      refine G.isub E dL_isTold_29 ?_
      refine G.iand E dL_isTold_30 ?_
      refine G.iconst (v := (-1)) E dL_isTold_31 (by decide) ?_
      refine G.iconst (v := (-1)) E dL_isTold_32 (by decide) ?_
      refine G.aload_n E dL_isTold_33 4 rfl rfl ?_
      refine G.aload E dL_isTold_34 5 rfl ?_
      refine G.aload E dL_isTold_36 6 rfl ?_
      refine G.aload E dL_isTold_38 7 rfl ?_
      refine G.callSl (mc := 2) (ms := 71) (rm := rm_L_minor) (n := 7) (As := [.int (v79 &&& (v80 - 1)), .int (-1), .int (-1), .ref (h 58), .ref (h 59), .ref (h 60), .ref (h 61)]) E dL_isTold_40 (fun _ hv => Con.inN E.wf (c_L_minor (wfL_N E.wf) hv)) gL_isTold_L_minor rfl rfl rfl (by decide +kernel) ⟨Nat.le_of_ble_eq_true rfl, Nat.le_of_ble_eq_true rfl⟩ rfl (Nat.le_of_ble_eq_true rfl) ⟨by show _ ≤ 886; omega, by show _ ≤ 30568; omega⟩ (fun v81 => ?_)
      refine G.widen (k1 := 4) (n1 := 142) (by omega) (by omega) ?_
      refine G.loc [1, 2, 3, 4, 5, 6, 7, 0] rfl ?_
      exact hj43 v81
end TR
