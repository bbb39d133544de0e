section TR
variable {p : Program} {l : Launch} {e : Env} {s : State} {m : MethodId} {args : Array Value} {below : List Frame} {meth : Method} {c : Code} {D : va_G} {cy : Nat → ClassId} {h : Nat → Nat}

noncomputable def fl_L_law_1351 {ρ : Type} (N : Nat) (L : Nat) (xs : Nat → Int32) (γ : Wd) (ν : Wd) (x14 : Int32) (x15 : Int32) (x16 : Int32) (x19 : Int32) (x21 : Int64) (x23 : Int32) (K : Int32 → Option (ρ)) : Nat → Int32 → Int32 → Option (ρ)
  | 0, _, _ => none
  | n + 1, x20, x24 =>
    if x23 ≤ x24 then (
      K x20)
    else (
      ck n (
        jn (fun (v11 : Int32) => ((
          fl_L_law_1351 N L xs γ ν x14 x15 x16 x19 x21 x23 K n v11 (x24 + 1)) : Option (ρ))) fun j1425 =>
        if ((x14 >>> (x23 &&& 31)) &&& 1) = 1 then (
          if ((x14 >>> (x24 &&& 31)) &&& 1) = 1 then (
            rL ν 10 49 ((7 * x23) + x24) fun v12 =>
            rL ν 11 49 ((7 * x23) + x24) fun v13 =>
            bP (f_L_pair N ν x23 x24) fun v14 =>
            bP (f_L_is N v12 v13 v14 x21) fun v15 =>
            lI (x20 &&& v15) fun v16 =>
            j1425 v16)
          else (
            j1425 x20))
        else (
          j1425 x20)))
set_option maxHeartbeats 4000000 in
set_option maxRecDepth 100000 in
theorem gl_L_law_1351 {ρ : Type} {Q : ρ → State → Prop} {N L b : Nat} {xs : Nat → Int32} {γ : Wd} {ν : Wd} {x14 : Int32} {x15 : Int32} {x16 : Int32} {x19 : Int32} {x21 : Int64} {x23 : Int32} {cX sX : Nat} {K : Int32 → Option (ρ)} (E : EV p s m #[Value.ref b] meth c cL_law 40 RL wsL_law ret D cy (wsL cy h) (adL h)) (hfl : l.stackTraces = false) (X0 : SX s (adL h) b L xs) (hge : ∀ q ∈ adL h, s.heap.size ≤ q) (hcX : cX ≤ 600104) (hsX : sX ≤ 7301314) (hK : ∀ (x20' : Int32), G p l e room_1 s m #[Value.ref b] below meth c 40 cX sX D (wsL cy h) (adL h) Q 1431 [(0, .ref b), (1, .ref (h 0)), (2, .ref (h 58)), (3, .ref (h 59)), (4, .ref (h 60)), (5, .ref (h 61)), (6, .ref (h 62)), (7, .ref (h 63)), (8, .ref (h 64)), (9, .ref (h 65)), (10, .ref (h 66)), (11, .ref (h 67)), (12, .ref (h 68)), (13, .ref (h 69)), (14, .int x14), (15, .int x15), (16, .int x16), (19, .int x19), (20, .int (x20')), (21, .long x21), (23, .int x23)] [] (γ, ν) (K x20')) :
  ∀ (n cb sb : Nat), cb + 16 * (n - 1) ≤ cX → sb + 568 * (n - 1) ≤ sX → ∀ (x20 : Int32) (x24 : Int32), G p l e room_1 s m #[Value.ref b] below meth c 40 cb sb D (wsL cy h) (adL h) Q 1351 [(0, .ref b), (1, .ref (h 0)), (2, .ref (h 58)), (3, .ref (h 59)), (4, .ref (h 60)), (5, .ref (h 61)), (6, .ref (h 62)), (7, .ref (h 63)), (8, .ref (h 64)), (9, .ref (h 65)), (10, .ref (h 66)), (11, .ref (h 67)), (12, .ref (h 68)), (13, .ref (h 69)), (14, .int x14), (15, .int x15), (16, .int x16), (19, .int x19), (20, .int x20), (21, .long x21), (23, .int x23), (24, .int x24)] [] (γ, ν) (fl_L_law_1351 N L xs γ ν x14 x15 x16 x19 x21 x23 K n x20 x24) := by
  intro n
  induction n with
  | zero => intros; exact G.no
  | succ n ih =>
    intro cb sb hcb hsb x20 x24
    have hcb : cb + 16 * n ≤ cX := hcb
    have hsb : sb + 568 * n ≤ sX := hsb
    rw [fl_L_law_1351]
    refine G.iload E dL_law_1351 21 rfl ?_
    refine G.iload E dL_law_1353 20 rfl ?_
    refine G.icmp_ge (tgt := 1431) E dL_law_1355 (by decide) ?_ ?_
    · refine G.widen (k1 := cX) (n1 := sX) (by omega) (by omega) ?_
      refine G.loc [0, 1, 2, 3, 4, 5, 6, 7, 8, 9, 10, 11, 12, 13, 14, 15, 16, 17, 18, 19, 20] rfl ?_
      exact hK x20
    · refine G.ckk (fun hn => ?_)
      refine G.iload E dL_law_1358 14 rfl ?_
      refine G.iload E dL_law_1360 20 rfl ?_
      refine G.ishr E dL_law_1362 ?_
      refine G.iconst (v := 1) E dL_law_1363 (by decide) ?_
      refine G.iand E dL_law_1364 ?_
      refine G.iconst (v := 1) E dL_law_1365 (by decide) ?_
      refine G.jn (P := fun j => ∀ (v11 : Int32), G p l e room_1 s m #[Value.ref b] below meth c 40 (cb + 16) (sb + 568) D (wsL cy h) (adL h) Q 1425 [(0, .ref b), (1, .ref (h 0)), (2, .ref (h 58)), (3, .ref (h 59)), (4, .ref (h 60)), (5, .ref (h 61)), (6, .ref (h 62)), (7, .ref (h 63)), (8, .ref (h 64)), (9, .ref (h 65)), (10, .ref (h 66)), (11, .ref (h 67)), (12, .ref (h 68)), (13, .ref (h 69)), (14, .int x14), (15, .int x15), (16, .int x16), (19, .int x19), (20, .int v11), (21, .long x21), (23, .int x23), (24, .int x24)] [] (γ, ν) (j v11)) ?_ (fun j1425 hj1425 => ?_)
      · intro v11
        refine G.iinc (v := x24 + 1) (lv' := [(24, .int (x24 + 1)), (0, .ref b), (1, .ref (h 0)), (2, .ref (h 58)), (3, .ref (h 59)), (4, .ref (h 60)), (5, .ref (h 61)), (6, .ref (h 62)), (7, .ref (h 63)), (8, .ref (h 64)), (9, .ref (h 65)), (10, .ref (h 66)), (11, .ref (h 67)), (12, .ref (h 68)), (13, .ref (h 69)), (14, .int x14), (15, .int x15), (16, .int x16), (19, .int x19), (20, .int v11), (21, .long x21), (23, .int x23)]) E dL_law_1425 21 rfl rfl (by decide) rfl ?_
        refine G.goto (tgt := 1351) E dL_law_1428 (by decide) ?_
        refine G.widen (k1 := cb + 16) (n1 := sb + 568) (by omega) (by omega) ?_
        refine G.loc [1, 2, 3, 4, 5, 6, 7, 8, 9, 10, 11, 12, 13, 14, 15, 16, 17, 18, 19, 20, 21, 0] rfl ?_
        exact ih (cb + 16) (sb + 568) (by omega) (by omega) v11 (x24 + 1)
      · refine G.icmp_ne (tgt := 1425) E dL_law_1366 (by decide) ?_ ?_
        · refine G.iload E dL_law_1369 14 rfl ?_
          refine G.iload E dL_law_1371 21 rfl ?_
          refine G.ishr E dL_law_1373 ?_
          refine G.iconst (v := 1) E dL_law_1374 (by decide) ?_
          refine G.iand E dL_law_1375 ?_
          refine G.iconst (v := 1) E dL_law_1376 (by decide) ?_
          refine G.icmp_ne (tgt := 1425) E dL_law_1377 (by decide) ?_ ?_
          · refine G.iload E dL_law_1380 18 rfl ?_
            refine G.aload E dL_law_1382 12 rfl ?_
            refine G.bipush (v := 7) E dL_law_1384 (by decide) ?_
            refine G.iload E dL_law_1386 20 rfl ?_
            refine G.imul E dL_law_1388 ?_
            refine G.iload E dL_law_1389 21 rfl ?_
            refine G.iadd E dL_law_1391 ?_
            refine G.laldW (q0 := 68) (p0 := 10) (n := 49) ν E dL_law_1392 (wsL_at68 _ _ _) (fun v12 => ?_)
            refine G.aload E dL_law_1393 13 rfl ?_
            refine G.bipush (v := 7) E dL_law_1395 (by decide) ?_
            refine G.iload E dL_law_1397 20 rfl ?_
            refine G.imul E dL_law_1399 ?_
            refine G.iload E dL_law_1400 21 rfl ?_
            refine G.iadd E dL_law_1402 ?_
            refine G.laldW (q0 := 69) (p0 := 11) (n := 49) ν E dL_law_1403 (wsL_at69 _ _ _) (fun v13 => ?_)
            refine G.iload E dL_law_1404 20 rfl ?_
            refine G.iload E dL_law_1406 21 rfl ?_
            refine G.aload_n E dL_law_1408 2 rfl rfl ?_
            refine G.aload_n E dL_law_1409 3 rfl rfl ?_
            refine G.aload E dL_law_1410 4 rfl ?_
            refine G.aload E dL_law_1412 5 rfl ?_
            refine G.callSl (mc := 16) (ms := 568) (rm := rm_L_pair) (n := 6) (As := [.int x23, .int x24, .ref (h 58), .ref (h 59), .ref (h 60), .ref (h 61)]) E dL_law_1414 (fun _ hv => Con.inN E.wf (c_L_pair (wfL_N E.wf) hv)) gL_law_L_pair rfl rfl rfl (by decide +kernel) ⟨Nat.le_of_ble_eq_true rfl, Nat.le_of_ble_eq_true rfl⟩ rfl (Nat.le_of_ble_eq_true rfl) ⟨by show _ ≤ 600104; omega, by show _ ≤ 7301314; omega⟩ (fun v14 => ?_)
            refine G.lload E dL_law_1417 19 rfl ?_
            refine G.callSi (mc := 0) (ms := 0) (rm := rm_L_is) (n := 4) (As := [.long v12, .long v13, .long v14, .long x21]) E dL_law_1419 (fun _ hv => Con.inN E.wf (c_L_is (wfL_N E.wf) hv)) gL_law_L_is rfl rfl rfl (by decide +kernel) ⟨Nat.le_of_ble_eq_true rfl, Nat.le_of_ble_eq_true rfl⟩ rfl (Nat.le_of_ble_eq_true rfl) ⟨by show _ ≤ 600104; omega, by show _ ≤ 7301314; omega⟩ (fun v15 => ?_)
            refine G.iand E dL_law_1422 ?_
            refine G.letI (fun v16 => ?_)
            refine G.istore (lv' := [(20, .int v16), (0, .ref b), (1, .ref (h 0)), (2, .ref (h 58)), (3, .ref (h 59)), (4, .ref (h 60)), (5, .ref (h 61)), (6, .ref (h 62)), (7, .ref (h 63)), (8, .ref (h 64)), (9, .ref (h 65)), (10, .ref (h 66)), (11, .ref (h 67)), (12, .ref (h 68)), (13, .ref (h 69)), (14, .int x14), (15, .int x15), (16, .int x16), (19, .int x19), (21, .long x21), (23, .int x23), (24, .int x24)]) E dL_law_1423 (by decide) rfl ?_
            refine G.widen (k1 := cb + 16) (n1 := sb + 568) (by omega) (by omega) ?_
            refine G.loc [1, 2, 3, 4, 5, 6, 7, 8, 9, 10, 11, 12, 13, 14, 15, 16, 17, 18, 0, 19, 20, 21] rfl ?_
            exact hj1425 v16
          · refine G.widen (k1 := cb + 16) (n1 := sb + 568) (by omega) (by omega) ?_
            refine G.loc [0, 1, 2, 3, 4, 5, 6, 7, 8, 9, 10, 11, 12, 13, 14, 15, 16, 17, 18, 19, 20, 21] rfl ?_
            exact hj1425 x20
        · refine G.widen (k1 := cb + 16) (n1 := sb + 568) (by omega) (by omega) ?_
          refine G.loc [0, 1, 2, 3, 4, 5, 6, 7, 8, 9, 10, 11, 12, 13, 14, 15, 16, 17, 18, 19, 20, 21] rfl ?_
          exact hj1425 x20
noncomputable def fl_L_law_1336 {ρ : Type} (N : Nat) (L : Nat) (xs : Nat → Int32) (γ : Wd) (ν : Wd) (x14 : Int32) (x15 : Int32) (x16 : Int32) (x19 : Int32) (x21 : Int64) (K : Int32 → Option (ρ)) : Nat → Int32 → Int32 → Option (ρ)
  | 0, _, _ => none
  | n + 1, x20, x23 =>
    if 7 ≤ x23 then (
      K x20)
    else (
      ck n (
        if x14 ≤ 0 then (
          K x20)
        else (
          fl_L_law_1351 N L xs γ ν x14 x15 x16 x19 x21 x23 (fun v17 =>
            fl_L_law_1336 N L xs γ ν x14 x15 x16 x19 x21 K n v17 (x23 + 1)) 7 x20 0)))
set_option maxHeartbeats 4000000 in
set_option maxRecDepth 100000 in
theorem gl_L_law_1336 {ρ : Type} {Q : ρ → State → Prop} {N L b : Nat} {xs : Nat → Int32} {γ : Wd} {ν : Wd} {x14 : Int32} {x15 : Int32} {x16 : Int32} {x19 : Int32} {x21 : Int64} {cX sX : Nat} {K : Int32 → Option (ρ)} (E : EV p s m #[Value.ref b] meth c cL_law 40 RL wsL_law ret D cy (wsL cy h) (adL h)) (hfl : l.stackTraces = false) (X0 : SX s (adL h) b L xs) (hge : ∀ q ∈ adL h, s.heap.size ≤ q) (hcX : cX ≤ 600104) (hsX : sX ≤ 7301314) (hK : ∀ (x20' : Int32), G p l e room_1 s m #[Value.ref b] below meth c 40 cX sX D (wsL cy h) (adL h) Q 1437 [(0, .ref b), (1, .ref (h 0)), (2, .ref (h 58)), (3, .ref (h 59)), (4, .ref (h 60)), (5, .ref (h 61)), (6, .ref (h 62)), (7, .ref (h 63)), (8, .ref (h 64)), (9, .ref (h 65)), (10, .ref (h 66)), (11, .ref (h 67)), (12, .ref (h 68)), (13, .ref (h 69)), (14, .int x14), (15, .int x15), (16, .int x16), (19, .int x19), (20, .int (x20'))] [] (γ, ν) (K x20')) :
  ∀ (n cb sb : Nat), cb + 96 * (n - 1) ≤ cX → sb + 3408 * (n - 1) ≤ sX → ∀ (x20 : Int32) (x23 : Int32), G p l e room_1 s m #[Value.ref b] below meth c 40 cb sb D (wsL cy h) (adL h) Q 1336 [(0, .ref b), (1, .ref (h 0)), (2, .ref (h 58)), (3, .ref (h 59)), (4, .ref (h 60)), (5, .ref (h 61)), (6, .ref (h 62)), (7, .ref (h 63)), (8, .ref (h 64)), (9, .ref (h 65)), (10, .ref (h 66)), (11, .ref (h 67)), (12, .ref (h 68)), (13, .ref (h 69)), (14, .int x14), (15, .int x15), (16, .int x16), (19, .int x19), (20, .int x20), (21, .long x21), (23, .int x23)] [] (γ, ν) (fl_L_law_1336 N L xs γ ν x14 x15 x16 x19 x21 K n x20 x23) := by
  intro n
  induction n with
  | zero => intros; exact G.no
  | succ n ih =>
    intro cb sb hcb hsb x20 x23
    have hcb : cb + 96 * n ≤ cX := hcb
    have hsb : sb + 3408 * n ≤ sX := hsb
    rw [fl_L_law_1336]
    refine G.iload E dL_law_1336 20 rfl ?_
    refine G.bipush (v := 7) E dL_law_1338 (by decide) ?_
    refine G.icmp_ge (tgt := 1437) E dL_law_1340 (by decide) ?_ ?_
    · refine G.widen (k1 := cX) (n1 := sX) (by omega) (by omega) ?_
      refine G.loc [0, 1, 2, 3, 4, 5, 6, 7, 8, 9, 10, 11, 12, 13, 14, 15, 16, 17, 18] rfl ?_
      exact hK x20
    · refine G.ckk (fun hn => ?_)
      refine G.iload E dL_law_1343 14 rfl ?_
      refine G.if_le (tgt := 1437) E dL_law_1345 (by decide) ?_ ?_
      · refine G.widen (k1 := cX) (n1 := sX) (by omega) (by omega) ?_
        refine G.loc [0, 1, 2, 3, 4, 5, 6, 7, 8, 9, 10, 11, 12, 13, 14, 15, 16, 17, 18] rfl ?_
        exact hK x20
      · refine G.iconst (v := 0) E dL_law_1348 (by decide) ?_
        refine G.istore (lv' := [(24, .int 0), (0, .ref b), (1, .ref (h 0)), (2, .ref (h 58)), (3, .ref (h 59)), (4, .ref (h 60)), (5, .ref (h 61)), (6, .ref (h 62)), (7, .ref (h 63)), (8, .ref (h 64)), (9, .ref (h 65)), (10, .ref (h 66)), (11, .ref (h 67)), (12, .ref (h 68)), (13, .ref (h 69)), (14, .int x14), (15, .int x15), (16, .int x16), (19, .int x19), (20, .int x20), (21, .long x21), (23, .int x23)]) E dL_law_1349 (by decide) rfl ?_
        refine G.widen (k1 := cb) (n1 := sb) (by omega) (by omega) ?_
        refine G.loc [1, 2, 3, 4, 5, 6, 7, 8, 9, 10, 11, 12, 13, 14, 15, 16, 17, 18, 19, 20, 21, 0] rfl ?_
        refine gl_L_law_1351 (cX := (cb + 96)) (sX := (sb + 3408)) E hfl X0 hge (by omega) (by omega) (fun v17 => ?_) 7 cb sb (by omega) (by omega) _ _
        refine G.iinc (v := x23 + 1) (lv' := [(23, .int (x23 + 1)), (0, .ref b), (1, .ref (h 0)), (2, .ref (h 58)), (3, .ref (h 59)), (4, .ref (h 60)), (5, .ref (h 61)), (6, .ref (h 62)), (7, .ref (h 63)), (8, .ref (h 64)), (9, .ref (h 65)), (10, .ref (h 66)), (11, .ref (h 67)), (12, .ref (h 68)), (13, .ref (h 69)), (14, .int x14), (15, .int x15), (16, .int x16), (19, .int x19), (20, .int v17), (21, .long x21)]) E dL_law_1431 20 rfl rfl (by decide) rfl ?_
        refine G.goto (tgt := 1336) E dL_law_1434 (by decide) ?_
        refine G.widen (k1 := cb + 96) (n1 := sb + 3408) (by omega) (by omega) ?_
        refine G.loc [1, 2, 3, 4, 5, 6, 7, 8, 9, 10, 11, 12, 13, 14, 15, 16, 17, 18, 19, 20, 0] rfl ?_
        exact ih (cb + 96) (sb + 3408) (by omega) (by omega) v17 (x23 + 1)
noncomputable def fl_L_law_432 {ρ : Type} (N : Nat) (L : Nat) (xs : Nat → Int32) (γ : Wd) (ν : Wd) (x14 : Int32) (x15 : Int32) (x16 : Int32) (x21 : Int32) (x22 : Int32) (x23 : Int32) (x24 : Int32) (K : Int32 → Option (ρ)) : Nat → Int32 → Int32 → Option (ρ)
  | 0, _, _ => none
  | n + 1, x25, x26 =>
    if 20 ≤ x26 then (
      K x25)
    else (
      rI ν 0 6 4 fun v53 =>
      lI (x25 + ((v53 >>> (x26 &&& 31)) &&& 1)) fun v54 =>
      fl_L_law_432 N L xs γ ν x14 x15 x16 x21 x22 x23 x24 K n v54 (x26 + 1))
set_option maxHeartbeats 4000000 in
set_option maxRecDepth 100000 in
theorem gl_L_law_432 {ρ : Type} {Q : ρ → State → Prop} {N L b : Nat} {xs : Nat → Int32} {γ : Wd} {ν : Wd} {x14 : Int32} {x15 : Int32} {x16 : Int32} {x21 : Int32} {x22 : Int32} {x23 : Int32} {x24 : Int32} {cb sb : Nat} {K : Int32 → Option (ρ)} (E : EV p s m #[Value.ref b] meth c cL_law 40 RL wsL_law ret D cy (wsL cy h) (adL h)) (hfl : l.stackTraces = false) (X0 : SX s (adL h) b L xs) (hge : ∀ q ∈ adL h, s.heap.size ≤ q) (hcb : cb ≤ 600104) (hsb : sb ≤ 7301314) (hK : ∀ (x25' : Int32), G p l e room_1 s m #[Value.ref b] below meth c 40 cb sb D (wsL cy h) (adL h) Q 458 [(0, .ref b), (1, .ref (h 0)), (2, .ref (h 58)), (3, .ref (h 59)), (4, .ref (h 60)), (5, .ref (h 61)), (6, .ref (h 62)), (7, .ref (h 63)), (8, .ref (h 64)), (9, .ref (h 65)), (10, .ref (h 66)), (11, .ref (h 67)), (12, .ref (h 68)), (13, .ref (h 69)), (14, .int x14), (15, .int x15), (16, .int x16), (21, .int x21), (22, .int x22), (23, .int x23), (24, .int x24), (25, .int (x25'))] [] (γ, ν) (K x25')) :
  ∀ (n : Nat), ∀ (x25 : Int32) (x26 : Int32), G p l e room_1 s m #[Value.ref b] below meth c 40 cb sb D (wsL cy h) (adL h) Q 432 [(0, .ref b), (1, .ref (h 0)), (2, .ref (h 58)), (3, .ref (h 59)), (4, .ref (h 60)), (5, .ref (h 61)), (6, .ref (h 62)), (7, .ref (h 63)), (8, .ref (h 64)), (9, .ref (h 65)), (10, .ref (h 66)), (11, .ref (h 67)), (12, .ref (h 68)), (13, .ref (h 69)), (14, .int x14), (15, .int x15), (16, .int x16), (21, .int x21), (22, .int x22), (23, .int x23), (24, .int x24), (25, .int x25), (26, .int x26)] [] (γ, ν) (fl_L_law_432 N L xs γ ν x14 x15 x16 x21 x22 x23 x24 K n x25 x26) := by
  intro n
  induction n with
  | zero => intros; exact G.no
  | succ n ih =>
    intro x25 x26
    rw [fl_L_law_432]
    refine G.iload E dL_law_432 22 rfl ?_
    refine G.bipush (v := 20) E dL_law_434 (by decide) ?_
    refine G.icmp_ge (tgt := 458) E dL_law_436 (by decide) ?_ ?_
    · refine G.widen (k1 := cb) (n1 := sb) (by omega) (by omega) ?_
      refine G.loc [0, 1, 2, 3, 4, 5, 6, 7, 8, 9, 10, 11, 12, 13, 14, 15, 16, 17, 18, 19, 20, 21] rfl ?_
      exact hK x25
    · refine G.iload E dL_law_439 21 rfl ?_
      refine G.aload_n E dL_law_441 2 rfl rfl ?_
      refine G.iconst (v := 4) E dL_law_442 (by decide) ?_
      refine G.ialdW (q0 := 58) (p0 := 0) (n := 6) ν E dL_law_443 (wsL_at58 _ _ _) (fun v53 => ?_)
      refine G.iload E dL_law_444 22 rfl ?_
      refine G.ishr E dL_law_446 ?_
      refine G.iconst (v := 1) E dL_law_447 (by decide) ?_
      refine G.iand E dL_law_448 ?_
      refine G.iadd E dL_law_449 ?_
      refine G.letI (fun v54 => ?_)
      refine G.istore (lv' := [(25, .int v54), (0, .ref b), (1, .ref (h 0)), (2, .ref (h 58)), (3, .ref (h 59)), (4, .ref (h 60)), (5, .ref (h 61)), (6, .ref (h 62)), (7, .ref (h 63)), (8, .ref (h 64)), (9, .ref (h 65)), (10, .ref (h 66)), (11, .ref (h 67)), (12, .ref (h 68)), (13, .ref (h 69)), (14, .int x14), (15, .int x15), (16, .int x16), (21, .int x21), (22, .int x22), (23, .int x23), (24, .int x24), (26, .int x26)]) E dL_law_450 (by decide) rfl ?_
      refine G.iinc (v := x26 + 1) (lv' := [(26, .int (x26 + 1)), (25, .int v54), (0, .ref b), (1, .ref (h 0)), (2, .ref (h 58)), (3, .ref (h 59)), (4, .ref (h 60)), (5, .ref (h 61)), (6, .ref (h 62)), (7, .ref (h 63)), (8, .ref (h 64)), (9, .ref (h 65)), (10, .ref (h 66)), (11, .ref (h 67)), (12, .ref (h 68)), (13, .ref (h 69)), (14, .int x14), (15, .int x15), (16, .int x16), (21, .int x21), (22, .int x22), (23, .int x23), (24, .int x24)]) E dL_law_452 22 rfl rfl (by decide) rfl ?_
      refine G.goto (tgt := 432) E dL_law_455 (by decide) ?_
      refine G.widen (k1 := cb) (n1 := sb) (by omega) (by omega) ?_
      refine G.loc [2, 3, 4, 5, 6, 7, 8, 9, 10, 11, 12, 13, 14, 15, 16, 17, 18, 19, 20, 21, 22, 1, 0] rfl ?_
      exact ih v54 (x26 + 1)
noncomputable def fl_L_law_679 {ρ : Type} (N : Nat) (L : Nat) (xs : Nat → Int32) (γ : Wd) (x14 : Int32) (x15 : Int32) (x16 : Int32) (x29 : Int32) (K : Int32 → Wd → Option (ρ)) : Nat → Int32 → Int32 → Wd → Option (ρ)
  | 0, _, _, _ => none
  | n + 1, x30, x31, ν0 =>
    if 80 ≤ x31 then (
      K x30 ν0)
    else (
      ck n (
        dI x31 20 fun v141 =>
        mI x31 20 fun v142 =>
        bP (f_L_isThere N ν0 v141 v142) fun v143 =>
        jn (fun (v144 : Int32) (v145 : Int32) (s146 : Wd) => ((
          fl_L_law_679 N L xs γ x14 x15 x16 x29 K n v144 (v145 + 1) s146) : Option (ρ))) fun j773 =>
        if v143 = 0 then (
          j773 x30 x31 ν0)
        else (
          jn (fun (_u : Unit) => ((
            mI x31 20 fun v147 =>
            bS (f_L_does N ν0 v141 v147) fun v148 s149 =>
            if v148 = 0 then (
              j773 x30 x31 s149)
            else (
              rI s149 0 6 5 fun v150 =>
              aI s149 0 6 5 (v150 + 1) fun s151 =>
              mI x31 20 fun v152 =>
              aI s151 8 40 v150 ((32 * v141) + v152) fun s153 =>
              j773 (x30 + 1) (-1) s153)) : Option (ρ))) fun j723 =>
          if v141 ≤ 1 then (
            j723 ())
          else (
            mI x31 20 fun v154 =>
            if 6 < v154 then (
              j773 x30 x31 ν0)
            else (
              j723 ())))))
set_option maxHeartbeats 4000000 in
set_option maxRecDepth 100000 in
theorem gl_L_law_679 {ρ : Type} {Q : ρ → State → Prop} {N L b : Nat} {xs : Nat → Int32} {γ : Wd} {x14 : Int32} {x15 : Int32} {x16 : Int32} {x29 : Int32} {cX sX : Nat} {K : Int32 → Wd → Option (ρ)} (E : EV p s m #[Value.ref b] meth c cL_law 40 RL wsL_law ret D cy (wsL cy h) (adL h)) (hfl : l.stackTraces = false) (X0 : SX s (adL h) b L xs) (hge : ∀ q ∈ adL h, s.heap.size ≤ q) (hcX : cX ≤ 600104) (hsX : sX ≤ 7301314) (hK : ∀ (x30' : Int32) (ν0' : Wd), G p l e room_1 s m #[Value.ref b] below meth c 40 cX sX D (wsL cy h) (adL h) Q 779 [(0, .ref b), (1, .ref (h 0)), (2, .ref (h 58)), (3, .ref (h 59)), (4, .ref (h 60)), (5, .ref (h 61)), (6, .ref (h 62)), (7, .ref (h 63)), (8, .ref (h 64)), (9, .ref (h 65)), (10, .ref (h 66)), (11, .ref (h 67)), (12, .ref (h 68)), (13, .ref (h 69)), (14, .int x14), (15, .int x15), (16, .int x16), (29, .int x29), (30, .int (x30'))] [] (γ, ν0') (K x30' ν0')) :
  ∀ (n cb sb : Nat), cb + 2 * (n - 1) ≤ cX → sb + 6 * (n - 1) ≤ sX → ∀ (x30 : Int32) (x31 : Int32) (ν0 : Wd), G p l e room_1 s m #[Value.ref b] below meth c 40 cb sb D (wsL cy h) (adL h) Q 679 [(0, .ref b), (1, .ref (h 0)), (2, .ref (h 58)), (3, .ref (h 59)), (4, .ref (h 60)), (5, .ref (h 61)), (6, .ref (h 62)), (7, .ref (h 63)), (8, .ref (h 64)), (9, .ref (h 65)), (10, .ref (h 66)), (11, .ref (h 67)), (12, .ref (h 68)), (13, .ref (h 69)), (14, .int x14), (15, .int x15), (16, .int x16), (29, .int x29), (30, .int x30), (31, .int x31)] [] (γ, ν0) (fl_L_law_679 N L xs γ x14 x15 x16 x29 K n x30 x31 ν0) := by
  intro n
  induction n with
  | zero => intros; exact G.no
  | succ n ih =>
    intro cb sb hcb hsb x30 x31 ν0
    have hcb : cb + 2 * n ≤ cX := hcb
    have hsb : sb + 6 * n ≤ sX := hsb
    rw [fl_L_law_679]
    refine G.iload E dL_law_679 19 rfl ?_
    refine G.bipush (v := 80) E dL_law_681 (by decide) ?_
    refine G.icmp_ge (tgt := 779) E dL_law_683 (by decide) ?_ ?_
    · refine G.widen (k1 := cX) (n1 := sX) (by omega) (by omega) ?_
      refine G.loc [0, 1, 2, 3, 4, 5, 6, 7, 8, 9, 10, 11, 12, 13, 14, 15, 16, 17, 18] rfl ?_
      exact hK x30 ν0
    · refine G.ckk (fun hn => ?_)
      refine G.iload E dL_law_686 19 rfl ?_
      refine G.bipush (v := 20) E dL_law_688 (by decide) ?_
      refine G.idiv E dL_law_690 (fun v141 => ?_)
      refine G.istore (lv' := [(32, .int v141), (0, .ref b), (1, .ref (h 0)), (2, .ref (h 58)), (3, .ref (h 59)), (4, .ref (h 60)), (5, .ref (h 61)), (6, .ref (h 62)), (7, .ref (h 63)), (8, .ref (h 64)), (9, .ref (h 65)), (10, .ref (h 66)), (11, .ref (h 67)), (12, .ref (h 68)), (13, .ref (h 69)), (14, .int x14), (15, .int x15), (16, .int x16), (29, .int x29), (30, .int x30), (31, .int x31)]) E dL_law_691 (by decide) rfl ?_
      refine G.iload E dL_law_693 0 rfl ?_
      refine G.iload E dL_law_695 20 rfl ?_
      refine G.bipush (v := 20) E dL_law_697 (by decide) ?_
      refine G.irem E dL_law_699 (fun v142 => ?_)
      refine G.aload_n E dL_law_700 3 rfl rfl ?_
      refine G.callSi (mc := 0) (ms := 0) (rm := rm_L_isThere) (n := 3) (As := [.int v141, .int v142, .ref (h 58)]) E dL_law_701 (fun _ hv => Con.inN E.wf (c_L_isThere (wfL_N E.wf) hv)) gL_law_L_isThere rfl rfl rfl (by decide +kernel) ⟨Nat.le_of_ble_eq_true rfl, Nat.le_of_ble_eq_true rfl⟩ rfl (Nat.le_of_ble_eq_true rfl) ⟨by show _ ≤ 600104; omega, by show _ ≤ 7301314; omega⟩ (fun v143 => ?_)
      refine G.jn (P := fun j => ∀ (v144 : Int32) (v145 : Int32) (s146 : Wd), G p l e room_1 s m #[Value.ref b] below meth c 40 (cb + 2) (sb + 6) D (wsL cy h) (adL h) Q 773 [(0, .ref b), (1, .ref (h 0)), (2, .ref (h 58)), (3, .ref (h 59)), (4, .ref (h 60)), (5, .ref (h 61)), (6, .ref (h 62)), (7, .ref (h 63)), (8, .ref (h 64)), (9, .ref (h 65)), (10, .ref (h 66)), (11, .ref (h 67)), (12, .ref (h 68)), (13, .ref (h 69)), (14, .int x14), (15, .int x15), (16, .int x16), (29, .int x29), (30, .int v144), (31, .int v145)] [] (γ, s146) (j v144 v145 s146)) ?_ (fun j773 hj773 => ?_)
      · intro v144 v145 s146
        refine G.iinc (v := v145 + 1) (lv' := [(31, .int (v145 + 1)), (0, .ref b), (1, .ref (h 0)), (2, .ref (h 58)), (3, .ref (h 59)), (4, .ref (h 60)), (5, .ref (h 61)), (6, .ref (h 62)), (7, .ref (h 63)), (8, .ref (h 64)), (9, .ref (h 65)), (10, .ref (h 66)), (11, .ref (h 67)), (12, .ref (h 68)), (13, .ref (h 69)), (14, .int x14), (15, .int x15), (16, .int x16), (29, .int x29), (30, .int v144)]) E dL_law_773 19 rfl rfl (by decide) rfl ?_
        refine G.goto (tgt := 679) E dL_law_776 (by decide) ?_
        refine G.widen (k1 := cb + 2) (n1 := sb + 6) (by omega) (by omega) ?_
        refine G.loc [1, 2, 3, 4, 5, 6, 7, 8, 9, 10, 11, 12, 13, 14, 15, 16, 17, 18, 19, 0] rfl ?_
        exact ih (cb + 2) (sb + 6) (by omega) (by omega) v144 (v145 + 1) s146
      · refine G.if_eq (tgt := 773) E dL_law_704 (by decide) ?_ ?_
        · refine G.widen (k1 := cb + 2) (n1 := sb + 6) (by omega) (by omega) ?_
          refine G.loc [1, 2, 3, 4, 5, 6, 7, 8, 9, 10, 11, 12, 13, 14, 15, 16, 17, 18, 19, 20] rfl ?_
          exact hj773 x30 x31 ν0
        · refine G.iload E dL_law_707 0 rfl ?_
          refine G.iconst (v := 1) E dL_law_709 (by decide) ?_
          refine G.jn (P := fun j => ∀ (_u : Unit), G p l e room_1 s m #[Value.ref b] below meth c 40 cb sb D (wsL cy h) (adL h) Q 723 [(0, .ref b), (1, .ref (h 0)), (2, .ref (h 58)), (3, .ref (h 59)), (4, .ref (h 60)), (5, .ref (h 61)), (6, .ref (h 62)), (7, .ref (h 63)), (8, .ref (h 64)), (9, .ref (h 65)), (10, .ref (h 66)), (11, .ref (h 67)), (12, .ref (h 68)), (13, .ref (h 69)), (14, .int x14), (15, .int x15), (16, .int x16), (29, .int x29), (30, .int x30), (31, .int x31), (32, .int v141)] [] (γ, ν0) (j _u)) ?_ (fun j723 hj723 => ?_)
          · intro _u
            refine G.iload E dL_law_723 20 rfl ?_
            refine G.iload E dL_law_725 19 rfl ?_
            refine G.bipush (v := 20) E dL_law_727 (by decide) ?_
            refine G.irem E dL_law_729 (fun v147 => ?_)
            refine G.aload_n E dL_law_730 2 rfl rfl ?_
            refine G.aload_n E dL_law_731 3 rfl rfl ?_
            refine G.aload E dL_law_732 4 rfl ?_
            refine G.aload E dL_law_734 5 rfl ?_
            refine G.callSiW (mc := 2) (ms := 6) (rm := rm_L_does) (n := 6) (As := [.int v141, .int v147, .ref (h 58), .ref (h 59), .ref (h 60), .ref (h 61)]) (fun x => (γ, x)) E dL_law_736 (fun _ _ hv => Con.inN E.wf (c_L_does (wfL_N E.wf) hv)) gL_law_L_does rfl rfl rfl (by decide +kernel) ⟨Nat.le_of_ble_eq_true rfl, Nat.le_of_ble_eq_true rfl⟩ rfl (Nat.le_of_ble_eq_true rfl) ⟨by show _ ≤ 600104; omega, by show _ ≤ 7301314; omega⟩ (fun v148 s149 => ?_)
            refine G.if_ne (tgt := 745) E dL_law_739 (by decide) ?_ ?_
            · refine G.goto (tgt := 773) E dL_law_742 (by decide) ?_
              refine G.widen (k1 := cb + 2) (n1 := sb + 6) (by omega) (by omega) ?_
              refine G.loc [0, 1, 2, 3, 4, 5, 6, 7, 8, 9, 10, 11, 12, 13, 14, 15, 16, 17, 18, 19] rfl ?_
              exact hj773 x30 x31 s149
            · refine G.aload E dL_law_745 10 rfl ?_
              refine G.aload_n E dL_law_747 2 rfl rfl ?_
              refine G.iconst (v := 5) E dL_law_748 (by decide) ?_
              refine G.dup2 E dL_law_749 rfl rfl ?_
              refine G.ialdW (q0 := 58) (p0 := 0) (n := 6) s149 E dL_law_750 (wsL_at58 _ _ _) (fun v150 => ?_)
              refine G.dupx2 E dL_law_751 rfl rfl rfl ?_
              refine G.iconst (v := 1) E dL_law_752 (by decide) ?_
              refine G.iadd E dL_law_753 ?_
              refine G.iastW (q0 := 58) (p0 := 0) (n := 6) s149 (fun x => (γ, x)) E dL_law_754 (wsL_at58 _ _ _) (fun j => (wsL_set58 _ _ _ _ _ j)) (fun s151 => ?_)
              refine G.bipush (v := 32) E dL_law_755 (by decide) ?_
              refine G.iload E dL_law_757 20 rfl ?_
              refine G.imul E dL_law_759 ?_
              refine G.iload E dL_law_760 19 rfl ?_
              refine G.bipush (v := 20) E dL_law_762 (by decide) ?_
              refine G.irem E dL_law_764 (fun v152 => ?_)
              refine G.iadd E dL_law_765 ?_
              refine G.iastW (q0 := 66) (p0 := 8) (n := 40) s151 (fun x => (γ, x)) E dL_law_766 (wsL_at66 _ _ _) (fun j => (wsL_set66 _ _ _ _ _ j)) (fun s153 => ?_)
              refine G.iinc (v := x30 + 1) (lv' := [(30, .int (x30 + 1)), (0, .ref b), (1, .ref (h 0)), (2, .ref (h 58)), (3, .ref (h 59)), (4, .ref (h 60)), (5, .ref (h 61)), (6, .ref (h 62)), (7, .ref (h 63)), (8, .ref (h 64)), (9, .ref (h 65)), (10, .ref (h 66)), (11, .ref (h 67)), (12, .ref (h 68)), (13, .ref (h 69)), (14, .int x14), (15, .int x15), (16, .int x16), (29, .int x29), (31, .int x31), (32, .int v141)]) E dL_law_767 18 rfl rfl (by decide) rfl ?_
              refine G.iconst (v := (-1)) E dL_law_770 (by decide) ?_
              refine G.istore (lv' := [(31, .int (-1)), (30, .int (x30 + 1)), (0, .ref b), (1, .ref (h 0)), (2, .ref (h 58)), (3, .ref (h 59)), (4, .ref (h 60)), (5, .ref (h 61)), (6, .ref (h 62)), (7, .ref (h 63)), (8, .ref (h 64)), (9, .ref (h 65)), (10, .ref (h 66)), (11, .ref (h 67)), (12, .ref (h 68)), (13, .ref (h 69)), (14, .int x14), (15, .int x15), (16, .int x16), (29, .int x29), (32, .int v141)]) E dL_law_771 (by decide) rfl ?_
              refine G.widen (k1 := cb + 2) (n1 := sb + 6) (by omega) (by omega) ?_
              refine G.loc [2, 3, 4, 5, 6, 7, 8, 9, 10, 11, 12, 13, 14, 15, 16, 17, 18, 19, 1, 0] rfl ?_
              exact hj773 (x30 + 1) (-1) s153
          · refine G.icmp_le (tgt := 723) E dL_law_710 (by decide) ?_ ?_
            · refine G.widen (k1 := cb) (n1 := sb) (by omega) (by omega) ?_
              refine G.loc [1, 2, 3, 4, 5, 6, 7, 8, 9, 10, 11, 12, 13, 14, 15, 16, 17, 18, 19, 20, 0] rfl ?_
              exact hj723 ()
            · refine G.iload E dL_law_713 20 rfl ?_
              refine G.bipush (v := 20) E dL_law_715 (by decide) ?_
              refine G.irem E dL_law_717 (fun v154 => ?_)
              refine G.bipush (v := 6) E dL_law_718 (by decide) ?_
              refine G.icmp_gt (tgt := 773) E dL_law_720 (by decide) ?_ ?_
              · refine G.widen (k1 := cb + 2) (n1 := sb + 6) (by omega) (by omega) ?_
                refine G.loc [1, 2, 3, 4, 5, 6, 7, 8, 9, 10, 11, 12, 13, 14, 15, 16, 17, 18, 19, 20] rfl ?_
                exact hj773 x30 x31 ν0
              · refine G.widen (k1 := cb) (n1 := sb) (by omega) (by omega) ?_
                refine G.loc [1, 2, 3, 4, 5, 6, 7, 8, 9, 10, 11, 12, 13, 14, 15, 16, 17, 18, 19, 20, 0] rfl ?_
                exact hj723 ()
noncomputable def fl_L_law_889 {ρ : Type} (N : Nat) (L : Nat) (xs : Nat → Int32) (γ : Wd) (x14 : Int32) (x15 : Int32) (x16 : Int32) (x31 : Int32) (K : Int32 → Wd → Option (ρ)) : Nat → Int32 → Int32 → Wd → Option (ρ)
  | 0, _, _, _ => none
  | n + 1, x19, x32, ν0 =>
    if x31 ≤ x32 then (
      K x19 ν0)
    else (
      ck n (
        rI ν0 8 40 x32 fun v176 =>
        dI v176 32 fun v177 =>
        rI ν0 8 40 x32 fun v178 =>
        mI v178 32 fun v179 =>
        bS (f_L_does N ν0 v177 v179) fun v180 s181 =>
        lI (x19 &&& v180) fun v182 =>
        fl_L_law_889 N L xs γ x14 x15 x16 x31 K n v182 (x32 + 1) s181))
set_option maxHeartbeats 4000000 in
set_option maxRecDepth 100000 in
theorem gl_L_law_889 {ρ : Type} {Q : ρ → State → Prop} {N L b : Nat} {xs : Nat → Int32} {γ : Wd} {x14 : Int32} {x15 : Int32} {x16 : Int32} {x31 : Int32} {cX sX : Nat} {K : Int32 → Wd → Option (ρ)} (E : EV p s m #[Value.ref b] meth c cL_law 40 RL wsL_law ret D cy (wsL cy h) (adL h)) (hfl : l.stackTraces = false) (X0 : SX s (adL h) b L xs) (hge : ∀ q ∈ adL h, s.heap.size ≤ q) (hcX : cX ≤ 600104) (hsX : sX ≤ 7301314) (hK : ∀ (x19' : Int32) (ν0' : Wd), G p l e room_1 s m #[Value.ref b] below meth c 40 cX sX D (wsL cy h) (adL h) Q 932 [(0, .ref b), (1, .ref (h 0)), (2, .ref (h 58)), (3, .ref (h 59)), (4, .ref (h 60)), (5, .ref (h 61)), (6, .ref (h 62)), (7, .ref (h 63)), (8, .ref (h 64)), (9, .ref (h 65)), (10, .ref (h 66)), (11, .ref (h 67)), (12, .ref (h 68)), (13, .ref (h 69)), (14, .int x14), (15, .int x15), (16, .int x16), (19, .int (x19')), (31, .int x31)] [] (γ, ν0') (K x19' ν0')) :
  ∀ (n cb sb : Nat), cb + 2 * (n - 1) ≤ cX → sb + 6 * (n - 1) ≤ sX → ∀ (x19 : Int32) (x32 : Int32) (ν0 : Wd), G p l e room_1 s m #[Value.ref b] below meth c 40 cb sb D (wsL cy h) (adL h) Q 889 [(0, .ref b), (1, .ref (h 0)), (2, .ref (h 58)), (3, .ref (h 59)), (4, .ref (h 60)), (5, .ref (h 61)), (6, .ref (h 62)), (7, .ref (h 63)), (8, .ref (h 64)), (9, .ref (h 65)), (10, .ref (h 66)), (11, .ref (h 67)), (12, .ref (h 68)), (13, .ref (h 69)), (14, .int x14), (15, .int x15), (16, .int x16), (19, .int x19), (31, .int x31), (32, .int x32)] [] (γ, ν0) (fl_L_law_889 N L xs γ x14 x15 x16 x31 K n x19 x32 ν0) := by
  intro n
  induction n with
  | zero => intros; exact G.no
  | succ n ih =>
    intro cb sb hcb hsb x19 x32 ν0
    have hcb : cb + 2 * n ≤ cX := hcb
    have hsb : sb + 6 * n ≤ sX := hsb
    rw [fl_L_law_889]
    refine G.iload E dL_law_889 19 rfl ?_
    refine G.iload E dL_law_891 18 rfl ?_
    refine G.icmp_ge (tgt := 932) E dL_law_893 (by decide) ?_ ?_
    · refine G.widen (k1 := cX) (n1 := sX) (by omega) (by omega) ?_
      refine G.loc [0, 1, 2, 3, 4, 5, 6, 7, 8, 9, 10, 11, 12, 13, 14, 15, 16, 17, 18] rfl ?_
      exact hK x19 ν0
    · refine G.ckk (fun hn => ?_)
      refine G.iload E dL_law_896 17 rfl ?_
      refine G.aload E dL_law_898 10 rfl ?_
      refine G.iload E dL_law_900 19 rfl ?_
      refine G.ialdW (q0 := 66) (p0 := 8) (n := 40) ν0 E dL_law_902 (wsL_at66 _ _ _) (fun v176 => ?_)
      refine G.bipush (v := 32) E dL_law_903 (by decide) ?_
      refine G.idiv E dL_law_905 (fun v177 => ?_)
      refine G.aload E dL_law_906 10 rfl ?_
      refine G.iload E dL_law_908 19 rfl ?_
      refine G.ialdW (q0 := 66) (p0 := 8) (n := 40) ν0 E dL_law_910 (wsL_at66 _ _ _) (fun v178 => ?_)
      refine G.bipush (v := 32) E dL_law_911 (by decide) ?_
      refine G.irem E dL_law_913 (fun v179 => ?_)
      refine G.aload_n E dL_law_914 2 rfl rfl ?_
      refine G.aload_n E dL_law_915 3 rfl rfl ?_
      refine G.aload E dL_law_916 4 rfl ?_
      refine G.aload E dL_law_918 5 rfl ?_
      refine G.callSiW (mc := 2) (ms := 6) (rm := rm_L_does) (n := 6) (As := [.int v177, .int v179, .ref (h 58), .ref (h 59), .ref (h 60), .ref (h 61)]) (fun x => (γ, x)) E dL_law_920 (fun _ _ hv => Con.inN E.wf (c_L_does (wfL_N E.wf) hv)) gL_law_L_does rfl rfl rfl (by decide +kernel) ⟨Nat.le_of_ble_eq_true rfl, Nat.le_of_ble_eq_true rfl⟩ rfl (Nat.le_of_ble_eq_true rfl) ⟨by show _ ≤ 600104; omega, by show _ ≤ 7301314; omega⟩ (fun v180 s181 => ?_)
      refine G.iand E dL_law_923 ?_
      refine G.letI (fun v182 => ?_)
      refine G.istore (lv' := [(19, .int v182), (0, .ref b), (1, .ref (h 0)), (2, .ref (h 58)), (3, .ref (h 59)), (4, .ref (h 60)), (5, .ref (h 61)), (6, .ref (h 62)), (7, .ref (h 63)), (8, .ref (h 64)), (9, .ref (h 65)), (10, .ref (h 66)), (11, .ref (h 67)), (12, .ref (h 68)), (13, .ref (h 69)), (14, .int x14), (15, .int x15), (16, .int x16), (31, .int x31), (32, .int x32)]) E dL_law_924 (by decide) rfl ?_
      refine G.iinc (v := x32 + 1) (lv' := [(32, .int (x32 + 1)), (19, .int v182), (0, .ref b), (1, .ref (h 0)), (2, .ref (h 58)), (3, .ref (h 59)), (4, .ref (h 60)), (5, .ref (h 61)), (6, .ref (h 62)), (7, .ref (h 63)), (8, .ref (h 64)), (9, .ref (h 65)), (10, .ref (h 66)), (11, .ref (h 67)), (12, .ref (h 68)), (13, .ref (h 69)), (14, .int x14), (15, .int x15), (16, .int x16), (31, .int x31)]) E dL_law_926 19 rfl rfl (by decide) rfl ?_
      refine G.goto (tgt := 889) E dL_law_929 (by decide) ?_
      refine G.widen (k1 := cb + 2) (n1 := sb + 6) (by omega) (by omega) ?_
      refine G.loc [2, 3, 4, 5, 6, 7, 8, 9, 10, 11, 12, 13, 14, 15, 16, 17, 18, 1, 19, 0] rfl ?_
      exact ih (cb + 2) (sb + 6) (by omega) (by omega) v182 (x32 + 1) s181
noncomputable def fl_L_law_981 {ρ : Type} (N : Nat) (L : Nat) (xs : Nat → Int32) (γ : Wd) (x14 : Int32) (x15 : Int32) (x16 : Int32) (x19 : Int32) (x32 : Int64) (x34 : Int32) (K : Wd → Option (ρ)) : Nat → Int32 → Wd → Option (ρ)
  | 0, _, _ => none
  | n + 1, x35, ν0 =>
    if x34 ≤ x35 then (
      K ν0)
    else (
      ck n (
        jn (fun (s192 : Wd) => ((
          fl_L_law_981 N L xs γ x14 x15 x16 x19 x32 x34 K n (x35 + 1) s192) : Option (ρ))) fun j1089 =>
        if ((x14 >>> (x34 &&& 31)) &&& 1) = 0 then (
          j1089 ν0)
        else (
          if ((x14 >>> (x35 &&& 31)) &&& 1) = 0 then (
            j1089 ν0)
          else (
            bP (f_L_pair N ν0 x34 x35) fun v193 =>
            jn (fun (v194 : Int64) => ((
              jn (fun (v195 : Int64) => ((
                aL ν0 10 49 ((7 * x34) + x35) v195 fun s196 =>
                dL x32 v194 fun v197 =>
                aL s196 11 49 ((7 * x34) + x35) v197 fun s198 =>
                j1089 s198) : Option (ρ))) fun j1072 =>
              if (lg_cmp x32 0) = 0 then (
                j1072 0)
              else (
                dL v193 v194 fun v199 =>
                j1072 v199)) : Option (ρ))) fun j1044 =>
            if (lg_cmp x32 0) = 0 then (
              j1044 1)
            else (
              bP (f_L_common N v193 x32) fun v200 =>
              j1044 v200)))))
set_option maxHeartbeats 4000000 in
set_option maxRecDepth 100000 in
theorem gl_L_law_981 {ρ : Type} {Q : ρ → State → Prop} {N L b : Nat} {xs : Nat → Int32} {γ : Wd} {x14 : Int32} {x15 : Int32} {x16 : Int32} {x19 : Int32} {x32 : Int64} {x34 : Int32} {cX sX : Nat} {K : Wd → Option (ρ)} (E : EV p s m #[Value.ref b] meth c cL_law 40 RL wsL_law ret D cy (wsL cy h) (adL h)) (hfl : l.stackTraces = false) (X0 : SX s (adL h) b L xs) (hge : ∀ q ∈ adL h, s.heap.size ≤ q) (hcX : cX ≤ 600104) (hsX : sX ≤ 7301314) (hK : ∀ (ν0' : Wd), G p l e room_1 s m #[Value.ref b] below meth c 40 cX sX D (wsL cy h) (adL h) Q 1095 [(0, .ref b), (1, .ref (h 0)), (2, .ref (h 58)), (3, .ref (h 59)), (4, .ref (h 60)), (5, .ref (h 61)), (6, .ref (h 62)), (7, .ref (h 63)), (8, .ref (h 64)), (9, .ref (h 65)), (10, .ref (h 66)), (11, .ref (h 67)), (12, .ref (h 68)), (13, .ref (h 69)), (14, .int x14), (15, .int x15), (16, .int x16), (19, .int x19), (32, .long x32), (34, .int x34)] [] (γ, ν0') (K ν0')) :
  ∀ (n cb sb : Nat), cb + 16 * (n - 1) ≤ cX → sb + 568 * (n - 1) ≤ sX → ∀ (x35 : Int32) (ν0 : Wd), G p l e room_1 s m #[Value.ref b] below meth c 40 cb sb D (wsL cy h) (adL h) Q 981 [(0, .ref b), (1, .ref (h 0)), (2, .ref (h 58)), (3, .ref (h 59)), (4, .ref (h 60)), (5, .ref (h 61)), (6, .ref (h 62)), (7, .ref (h 63)), (8, .ref (h 64)), (9, .ref (h 65)), (10, .ref (h 66)), (11, .ref (h 67)), (12, .ref (h 68)), (13, .ref (h 69)), (14, .int x14), (15, .int x15), (16, .int x16), (19, .int x19), (32, .long x32), (34, .int x34), (35, .int x35)] [] (γ, ν0) (fl_L_law_981 N L xs γ x14 x15 x16 x19 x32 x34 K n x35 ν0) := by
  intro n
  induction n with
  | zero => intros; exact G.no
  | succ n ih =>
    intro cb sb hcb hsb x35 ν0
    have hcb : cb + 16 * n ≤ cX := hcb
    have hsb : sb + 568 * n ≤ sX := hsb
    rw [fl_L_law_981]
    refine G.iload E dL_law_981 20 rfl ?_
    refine G.iload E dL_law_983 19 rfl ?_
    refine G.icmp_ge (tgt := 1095) E dL_law_985 (by decide) ?_ ?_
    · refine G.widen (k1 := cX) (n1 := sX) (by omega) (by omega) ?_
      refine G.loc [0, 1, 2, 3, 4, 5, 6, 7, 8, 9, 10, 11, 12, 13, 14, 15, 16, 17, 18, 19] rfl ?_
      exact hK ν0
    · refine G.ckk (fun hn => ?_)
      refine G.iload E dL_law_988 14 rfl ?_
      refine G.iload E dL_law_990 19 rfl ?_
      refine G.ishr E dL_law_992 ?_
      refine G.iconst (v := 1) E dL_law_993 (by decide) ?_
      refine G.iand E dL_law_994 ?_
      refine G.jn (P := fun j => ∀ (s192 : Wd), G p l e room_1 s m #[Value.ref b] below meth c 40 (cb + 16) (sb + 568) D (wsL cy h) (adL h) Q 1089 [(0, .ref b), (1, .ref (h 0)), (2, .ref (h 58)), (3, .ref (h 59)), (4, .ref (h 60)), (5, .ref (h 61)), (6, .ref (h 62)), (7, .ref (h 63)), (8, .ref (h 64)), (9, .ref (h 65)), (10, .ref (h 66)), (11, .ref (h 67)), (12, .ref (h 68)), (13, .ref (h 69)), (14, .int x14), (15, .int x15), (16, .int x16), (19, .int x19), (32, .long x32), (34, .int x34), (35, .int x35)] [] (γ, s192) (j s192)) ?_ (fun j1089 hj1089 => ?_)
      · intro s192
        refine G.iinc (v := x35 + 1) (lv' := [(35, .int (x35 + 1)), (0, .ref b), (1, .ref (h 0)), (2, .ref (h 58)), (3, .ref (h 59)), (4, .ref (h 60)), (5, .ref (h 61)), (6, .ref (h 62)), (7, .ref (h 63)), (8, .ref (h 64)), (9, .ref (h 65)), (10, .ref (h 66)), (11, .ref (h 67)), (12, .ref (h 68)), (13, .ref (h 69)), (14, .int x14), (15, .int x15), (16, .int x16), (19, .int x19), (32, .long x32), (34, .int x34)]) E dL_law_1089 20 rfl rfl (by decide) rfl ?_
        refine G.goto (tgt := 981) E dL_law_1092 (by decide) ?_
        refine G.widen (k1 := cb + 16) (n1 := sb + 568) (by omega) (by omega) ?_
        refine G.loc [1, 2, 3, 4, 5, 6, 7, 8, 9, 10, 11, 12, 13, 14, 15, 16, 17, 18, 19, 20, 0] rfl ?_
        exact ih (cb + 16) (sb + 568) (by omega) (by omega) (x35 + 1) s192
      · refine G.if_eq (tgt := 1089) E dL_law_995 (by decide) ?_ ?_
        · refine G.widen (k1 := cb + 16) (n1 := sb + 568) (by omega) (by omega) ?_
          refine G.loc [0, 1, 2, 3, 4, 5, 6, 7, 8, 9, 10, 11, 12, 13, 14, 15, 16, 17, 18, 19, 20] rfl ?_
          exact hj1089 ν0
        · refine G.iload E dL_law_998 14 rfl ?_
          refine G.iload E dL_law_1000 20 rfl ?_
          refine G.ishr E dL_law_1002 ?_
          refine G.iconst (v := 1) E dL_law_1003 (by decide) ?_
          refine G.iand E dL_law_1004 ?_
          refine G.if_ne (tgt := 1011) E dL_law_1005 (by decide) ?_ ?_
          · refine G.goto (tgt := 1089) E dL_law_1008 (by decide) ?_
            refine G.widen (k1 := cb + 16) (n1 := sb + 568) (by omega) (by omega) ?_
            refine G.loc [0, 1, 2, 3, 4, 5, 6, 7, 8, 9, 10, 11, 12, 13, 14, 15, 16, 17, 18, 19, 20] rfl ?_
            exact hj1089 ν0
          · refine G.iload E dL_law_1011 19 rfl ?_
            refine G.iload E dL_law_1013 20 rfl ?_
            refine G.aload_n E dL_law_1015 2 rfl rfl ?_
            refine G.aload_n E dL_law_1016 3 rfl rfl ?_
            refine G.aload E dL_law_1017 4 rfl ?_
            refine G.aload E dL_law_1019 5 rfl ?_
            refine G.callSl (mc := 16) (ms := 568) (rm := rm_L_pair) (n := 6) (As := [.int x34, .int x35, .ref (h 58), .ref (h 59), .ref (h 60), .ref (h 61)]) E dL_law_1021 (fun _ hv => Con.inN E.wf (c_L_pair (wfL_N E.wf) hv)) gL_law_L_pair rfl rfl rfl (by decide +kernel) ⟨Nat.le_of_ble_eq_true rfl, Nat.le_of_ble_eq_true rfl⟩ rfl (Nat.le_of_ble_eq_true rfl) ⟨by show _ ≤ 600104; omega, by show _ ≤ 7301314; omega⟩ (fun v193 => ?_)
            refine G.lstore (lv' := [(36, .long v193), (0, .ref b), (1, .ref (h 0)), (2, .ref (h 58)), (3, .ref (h 59)), (4, .ref (h 60)), (5, .ref (h 61)), (6, .ref (h 62)), (7, .ref (h 63)), (8, .ref (h 64)), (9, .ref (h 65)), (10, .ref (h 66)), (11, .ref (h 67)), (12, .ref (h 68)), (13, .ref (h 69)), (14, .int x14), (15, .int x15), (16, .int x16), (19, .int x19), (32, .long x32), (34, .int x34), (35, .int x35)]) E dL_law_1024 (by decide) rfl ?_
            refine G.lload E dL_law_1026 19 rfl ?_
            refine G.lconst (v := 0) E dL_law_1028 (by decide) ?_
            refine G.lcmp E dL_law_1029 ?_
            refine G.jn (P := fun j => ∀ (v194 : Int64), G p l e room_1 s m #[Value.ref b] below meth c 40 (cb + 16) (sb + 568) D (wsL cy h) (adL h) Q 1044 [(0, .ref b), (1, .ref (h 0)), (2, .ref (h 58)), (3, .ref (h 59)), (4, .ref (h 60)), (5, .ref (h 61)), (6, .ref (h 62)), (7, .ref (h 63)), (8, .ref (h 64)), (9, .ref (h 65)), (10, .ref (h 66)), (11, .ref (h 67)), (12, .ref (h 68)), (13, .ref (h 69)), (14, .int x14), (15, .int x15), (16, .int x16), (19, .int x19), (32, .long x32), (34, .int x34), (35, .int x35), (36, .long v193)] [.long v194] (γ, ν0) (j v194)) ?_ (fun j1044 hj1044 => ?_)
            · intro v194
              refine G.lstore (lv' := [(38, .long v194), (0, .ref b), (1, .ref (h 0)), (2, .ref (h 58)), (3, .ref (h 59)), (4, .ref (h 60)), (5, .ref (h 61)), (6, .ref (h 62)), (7, .ref (h 63)), (8, .ref (h 64)), (9, .ref (h 65)), (10, .ref (h 66)), (11, .ref (h 67)), (12, .ref (h 68)), (13, .ref (h 69)), (14, .int x14), (15, .int x15), (16, .int x16), (19, .int x19), (32, .long x32), (34, .int x34), (35, .int x35), (36, .long v193)]) E dL_law_1044 (by decide) rfl ?_
              refine G.aload E dL_law_1046 13 rfl ?_
              refine G.bipush (v := 7) E dL_law_1048 (by decide) ?_
              refine G.iload E dL_law_1050 20 rfl ?_
              refine G.imul E dL_law_1052 ?_
              refine G.iload E dL_law_1053 21 rfl ?_
              refine G.iadd E dL_law_1055 ?_
              refine G.lload E dL_law_1056 19 rfl ?_
              refine G.lconst (v := 0) E dL_law_1058 (by decide) ?_
              refine G.lcmp E dL_law_1059 ?_
              refine G.jn (P := fun j => ∀ (v195 : Int64), G p l e room_1 s m #[Value.ref b] below meth c 40 (cb + 16) (sb + 568) D (wsL cy h) (adL h) Q 1072 [(0, .ref b), (1, .ref (h 0)), (2, .ref (h 58)), (3, .ref (h 59)), (4, .ref (h 60)), (5, .ref (h 61)), (6, .ref (h 62)), (7, .ref (h 63)), (8, .ref (h 64)), (9, .ref (h 65)), (10, .ref (h 66)), (11, .ref (h 67)), (12, .ref (h 68)), (13, .ref (h 69)), (14, .int x14), (15, .int x15), (16, .int x16), (19, .int x19), (32, .long x32), (34, .int x34), (35, .int x35), (38, .long v194)] [.long v195, .int ((7 * x34) + x35), .ref (h 68)] (γ, ν0) (j v195)) ?_ (fun j1072 hj1072 => ?_)
              · intro v195
                refine G.lastW (q0 := 68) (p0 := 10) (n := 49) ν0 (fun x => (γ, x)) E dL_law_1072 (wsL_at68 _ _ _) (fun j => (wsL_set68 _ _ _ _ _ j)) (fun s196 => ?_)
                refine G.aload E dL_law_1073 13 rfl ?_
                refine G.bipush (v := 7) E dL_law_1075 (by decide) ?_
                refine G.iload E dL_law_1077 19 rfl ?_
                refine G.imul E dL_law_1079 ?_
                refine G.iload E dL_law_1080 20 rfl ?_
                refine G.iadd E dL_law_1082 ?_
                refine G.lload E dL_law_1083 18 rfl ?_
                refine G.lload E dL_law_1085 21 rfl ?_
                refine G.ldiv E dL_law_1087 (fun v197 => ?_)
                refine G.lastW (q0 := 69) (p0 := 11) (n := 49) s196 (fun x => (γ, x)) E dL_law_1088 (wsL_at69 _ _ _) (fun j => (wsL_set69 _ _ _ _ _ j)) (fun s198 => ?_)
                refine G.widen (k1 := cb + 16) (n1 := sb + 568) (by omega) (by omega) ?_
                refine G.loc [0, 1, 2, 3, 4, 5, 6, 7, 8, 9, 10, 11, 12, 13, 14, 15, 16, 17, 18, 19, 20] rfl ?_
                exact hj1089 s198
              · refine G.if_ne (tgt := 1067) E dL_law_1060 (by decide) ?_ ?_
                · refine G.lconst (v := 0) E dL_law_1063 (by decide) ?_
                  refine G.goto (tgt := 1072) E dL_law_1064 (by decide) ?_
                  refine G.widen (k1 := cb + 16) (n1 := sb + 568) (by omega) (by omega) ?_
                  refine G.loc [1, 2, 3, 4, 5, 6, 7, 8, 9, 10, 11, 12, 13, 14, 15, 16, 17, 18, 19, 20, 21, 0] rfl ?_
                  exact hj1072 0
                · refine G.lload E dL_law_1067 22 rfl ?_
                  refine G.lload E dL_law_1069 0 rfl ?_
                  refine G.ldiv E dL_law_1071 (fun v199 => ?_)
                  refine G.widen (k1 := cb + 16) (n1 := sb + 568) (by omega) (by omega) ?_
                  refine G.loc [1, 2, 3, 4, 5, 6, 7, 8, 9, 10, 11, 12, 13, 14, 15, 16, 17, 18, 19, 20, 21, 0] rfl ?_
                  exact hj1072 v199
            · refine G.if_ne (tgt := 1037) E dL_law_1030 (by decide) ?_ ?_
              · refine G.lconst (v := 1) E dL_law_1033 (by decide) ?_
                refine G.goto (tgt := 1044) E dL_law_1034 (by decide) ?_
                refine G.widen (k1 := cb + 16) (n1 := sb + 568) (by omega) (by omega) ?_
                refine G.loc [1, 2, 3, 4, 5, 6, 7, 8, 9, 10, 11, 12, 13, 14, 15, 16, 17, 18, 19, 20, 21, 0] rfl ?_
                exact hj1044 1
              · refine G.lload E dL_law_1037 0 rfl ?_
                refine G.lload E dL_law_1039 19 rfl ?_
                refine G.callSl (mc := 0) (ms := 0) (rm := rm_L_common) (n := 2) (As := [.long v193, .long x32]) E dL_law_1041 (fun _ hv => Con.inN E.wf (c_L_common (wfL_N E.wf) hv)) gL_law_L_common rfl rfl rfl (by decide +kernel) ⟨Nat.le_of_ble_eq_true rfl, Nat.le_of_ble_eq_true rfl⟩ rfl (Nat.le_of_ble_eq_true rfl) ⟨by show _ ≤ 600104; omega, by show _ ≤ 7301314; omega⟩ (fun v200 => ?_)
                refine G.widen (k1 := cb + 16) (n1 := sb + 568) (by omega) (by omega) ?_
                refine G.loc [1, 2, 3, 4, 5, 6, 7, 8, 9, 10, 11, 12, 13, 14, 15, 16, 17, 18, 19, 20, 21, 0] rfl ?_
                exact hj1044 v200
noncomputable def fl_L_law_971 {ρ : Type} (N : Nat) (L : Nat) (xs : Nat → Int32) (γ : Wd) (x14 : Int32) (x15 : Int32) (x16 : Int32) (x19 : Int32) (x32 : Int64) (K : Wd → Option (ρ)) : Nat → Int32 → Wd → Option (ρ)
  | 0, _, _ => none
  | n + 1, x34, ν0 =>
    if 7 ≤ x34 then (
      K ν0)
    else (
      ck n (
        fl_L_law_981 N L xs γ x14 x15 x16 x19 x32 x34 (fun s201 =>
          fl_L_law_971 N L xs γ x14 x15 x16 x19 x32 K n (x34 + 1) s201) 7 0 ν0))
set_option maxHeartbeats 4000000 in
set_option maxRecDepth 100000 in
theorem gl_L_law_971 {ρ : Type} {Q : ρ → State → Prop} {N L b : Nat} {xs : Nat → Int32} {γ : Wd} {x14 : Int32} {x15 : Int32} {x16 : Int32} {x19 : Int32} {x32 : Int64} {cX sX : Nat} {K : Wd → Option (ρ)} (E : EV p s m #[Value.ref b] meth c cL_law 40 RL wsL_law ret D cy (wsL cy h) (adL h)) (hfl : l.stackTraces = false) (X0 : SX s (adL h) b L xs) (hge : ∀ q ∈ adL h, s.heap.size ≤ q) (hcX : cX ≤ 600104) (hsX : sX ≤ 7301314) (hK : ∀ (ν0' : Wd), G p l e room_1 s m #[Value.ref b] below meth c 40 cX sX D (wsL cy h) (adL h) Q 1101 [(0, .ref b), (1, .ref (h 0)), (2, .ref (h 58)), (3, .ref (h 59)), (4, .ref (h 60)), (5, .ref (h 61)), (6, .ref (h 62)), (7, .ref (h 63)), (8, .ref (h 64)), (9, .ref (h 65)), (10, .ref (h 66)), (11, .ref (h 67)), (12, .ref (h 68)), (13, .ref (h 69)), (14, .int x14), (15, .int x15), (16, .int x16), (19, .int x19)] [] (γ, ν0') (K ν0')) :
  ∀ (n cb sb : Nat), cb + 96 * (n - 1) ≤ cX → sb + 3408 * (n - 1) ≤ sX → ∀ (x34 : Int32) (ν0 : Wd), G p l e room_1 s m #[Value.ref b] below meth c 40 cb sb D (wsL cy h) (adL h) Q 971 [(0, .ref b), (1, .ref (h 0)), (2, .ref (h 58)), (3, .ref (h 59)), (4, .ref (h 60)), (5, .ref (h 61)), (6, .ref (h 62)), (7, .ref (h 63)), (8, .ref (h 64)), (9, .ref (h 65)), (10, .ref (h 66)), (11, .ref (h 67)), (12, .ref (h 68)), (13, .ref (h 69)), (14, .int x14), (15, .int x15), (16, .int x16), (19, .int x19), (32, .long x32), (34, .int x34)] [] (γ, ν0) (fl_L_law_971 N L xs γ x14 x15 x16 x19 x32 K n x34 ν0) := by
  intro n
  induction n with
  | zero => intros; exact G.no
  | succ n ih =>
    intro cb sb hcb hsb x34 ν0
    have hcb : cb + 96 * n ≤ cX := hcb
    have hsb : sb + 3408 * n ≤ sX := hsb
    rw [fl_L_law_971]
    refine G.iload E dL_law_971 19 rfl ?_
    refine G.bipush (v := 7) E dL_law_973 (by decide) ?_
    refine G.icmp_ge (tgt := 1101) E dL_law_975 (by decide) ?_ ?_
    · refine G.widen (k1 := cX) (n1 := sX) (by omega) (by omega) ?_
      refine G.loc [0, 1, 2, 3, 4, 5, 6, 7, 8, 9, 10, 11, 12, 13, 14, 15, 16, 17] rfl ?_
      exact hK ν0
    · refine G.ckk (fun hn => ?_)
      refine G.iconst (v := 0) E dL_law_978 (by decide) ?_
      refine G.istore (lv' := [(35, .int 0), (0, .ref b), (1, .ref (h 0)), (2, .ref (h 58)), (3, .ref (h 59)), (4, .ref (h 60)), (5, .ref (h 61)), (6, .ref (h 62)), (7, .ref (h 63)), (8, .ref (h 64)), (9, .ref (h 65)), (10, .ref (h 66)), (11, .ref (h 67)), (12, .ref (h 68)), (13, .ref (h 69)), (14, .int x14), (15, .int x15), (16, .int x16), (19, .int x19), (32, .long x32), (34, .int x34)]) E dL_law_979 (by decide) rfl ?_
      refine G.widen (k1 := cb) (n1 := sb) (by omega) (by omega) ?_
      refine G.loc [1, 2, 3, 4, 5, 6, 7, 8, 9, 10, 11, 12, 13, 14, 15, 16, 17, 18, 19, 20, 0] rfl ?_
      refine gl_L_law_981 (cX := (cb + 96)) (sX := (sb + 3408)) E hfl X0 hge (by omega) (by omega) (fun s201 => ?_) 7 cb sb (by omega) (by omega) _ _
      refine G.iinc (v := x34 + 1) (lv' := [(34, .int (x34 + 1)), (0, .ref b), (1, .ref (h 0)), (2, .ref (h 58)), (3, .ref (h 59)), (4, .ref (h 60)), (5, .ref (h 61)), (6, .ref (h 62)), (7, .ref (h 63)), (8, .ref (h 64)), (9, .ref (h 65)), (10, .ref (h 66)), (11, .ref (h 67)), (12, .ref (h 68)), (13, .ref (h 69)), (14, .int x14), (15, .int x15), (16, .int x16), (19, .int x19), (32, .long x32)]) E dL_law_1095 19 rfl rfl (by decide) rfl ?_
      refine G.goto (tgt := 971) E dL_law_1098 (by decide) ?_
      refine G.widen (k1 := cb + 96) (n1 := sb + 3408) (by omega) (by omega) ?_
      refine G.loc [1, 2, 3, 4, 5, 6, 7, 8, 9, 10, 11, 12, 13, 14, 15, 16, 17, 18, 19, 0] rfl ?_
      exact ih (cb + 96) (sb + 3408) (by omega) (by omega) (x34 + 1) s201
noncomputable def fl_L_law_1119 {ρ : Type} (N : Nat) (L : Nat) (xs : Nat → Int32) (x14 : Int32) (x15 : Int32) (x16 : Int32) (x17 : Int32) (x18 : Int32) (K : Int32 → Wd → Wd → Option (ρ)) : Nat → Int32 → Int32 → Int32 → Wd → Wd → Option (ρ)
  | 0, _, _, _, _, _ => none
  | n + 1, x19, x34, x35, γ0, ν0 =>
    if 20 ≤ x35 then (
      K x19 γ0 ν0)
    else (
      ck n (
        if x34 = 0 then (
          bP (f_L_low N (x17 >>> (4 &&& 31)) 20) fun v204 =>
          mI (x35 + v204) 20 fun v205 =>
          bP (f_L_isThere N ν0 x18 v205) fun v206 =>
          jn (fun (v207 : Int32) => ((
            jn (fun (v208 : Int32) (s209 : Wd) => ((
              bS (f_L_move N γ0 x18 v205) fun v210 s211 =>
              jn (fun (v212 : Int32) => ((
                jn (fun (v213 : Int32) => ((
                  lI (x19 &&& v213) fun v214 =>
                  jn (fun (s215 : Wd) => ((
                    fl_L_law_1119 N L xs x14 x15 x16 x17 x18 K n v214 v208 (x35 + 1) s211 s215) : Option (ρ))) fun j1281 =>
                  if v208 = 0 then (
                    j1281 s209)
                  else (
                    rI s209 0 6 5 fun v216 =>
                    aI s209 0 6 5 (v216 + 1) fun s217 =>
                    aI s217 8 40 v216 ((32 * x18) + v205) fun s218 =>
                    j1281 s218)) : Option (ρ))) fun j1254 =>
                if v210 = v212 then (
                  j1254 1)
                else (
                  j1254 0)) : Option (ρ))) fun j1246 =>
              if v207 = 0 then (
                j1246 (-7100))
              else (
                if v208 = 0 then (
                  j1246 (-7300))
                else (
                  j1246 0))) : Option (ρ))) fun j1211 =>
            jn (fun (s219 : Wd) => ((
              j1211 0 s219) : Option (ρ))) fun j1210 =>
            if v207 = 0 then (
              j1210 ν0)
            else (
              bS (f_L_does N ν0 x18 v205) fun v220 s221 =>
              if v220 = 0 then (
                j1210 s221)
              else (
                j1211 1 s221))) : Option (ρ))) fun j1183 =>
          jn (fun (_u : Unit) => ((
            j1183 0) : Option (ρ))) fun j1182 =>
          if v206 = 0 then (
            j1182 ())
          else (
            jn (fun (_u : Unit) => ((
              j1183 1) : Option (ρ))) fun j1178 =>
            if x18 < 2 then (
              j1178 ())
            else (
              if x18 = 5 then (
                j1178 ())
              else (
                if 7 ≤ v205 then (
                  j1182 ())
                else (
                  j1178 ())))))
        else (
          K x19 γ0 ν0)))
set_option maxHeartbeats 4000000 in
set_option maxRecDepth 100000 in
theorem gl_L_law_1119 {ρ : Type} {Q : ρ → State → Prop} {N L b : Nat} {xs : Nat → Int32} {x14 : Int32} {x15 : Int32} {x16 : Int32} {x17 : Int32} {x18 : Int32} {cX sX : Nat} {K : Int32 → Wd → Wd → Option (ρ)} (E : EV p s m #[Value.ref b] meth c cL_law 40 RL wsL_law ret D cy (wsL cy h) (adL h)) (hfl : l.stackTraces = false) (X0 : SX s (adL h) b L xs) (hge : ∀ q ∈ adL h, s.heap.size ≤ q) (hcX : cX ≤ 600104) (hsX : sX ≤ 7301314) (hK : ∀ (x19' : Int32) (γ0' : Wd) (ν0' : Wd), G p l e room_1 s m #[Value.ref b] below meth c 40 cX sX D (wsL cy h) (adL h) Q 1287 [(0, .ref b), (1, .ref (h 0)), (2, .ref (h 58)), (3, .ref (h 59)), (4, .ref (h 60)), (5, .ref (h 61)), (6, .ref (h 62)), (7, .ref (h 63)), (8, .ref (h 64)), (9, .ref (h 65)), (10, .ref (h 66)), (11, .ref (h 67)), (12, .ref (h 68)), (13, .ref (h 69)), (14, .int x14), (15, .int x15), (16, .int x16), (19, .int (x19'))] [] (γ0', ν0') (K x19' γ0' ν0')) :
  ∀ (n cb sb : Nat), cb + 5 * (n - 1) ≤ cX → sb + 24 * (n - 1) ≤ sX → ∀ (x19 : Int32) (x34 : Int32) (x35 : Int32) (γ0 : Wd) (ν0 : Wd), G p l e room_1 s m #[Value.ref b] below meth c 40 cb sb D (wsL cy h) (adL h) Q 1119 [(0, .ref b), (1, .ref (h 0)), (2, .ref (h 58)), (3, .ref (h 59)), (4, .ref (h 60)), (5, .ref (h 61)), (6, .ref (h 62)), (7, .ref (h 63)), (8, .ref (h 64)), (9, .ref (h 65)), (10, .ref (h 66)), (11, .ref (h 67)), (12, .ref (h 68)), (13, .ref (h 69)), (14, .int x14), (15, .int x15), (16, .int x16), (17, .int x17), (18, .int x18), (19, .int x19), (34, .int x34), (35, .int x35)] [] (γ0, ν0) (fl_L_law_1119 N L xs x14 x15 x16 x17 x18 K n x19 x34 x35 γ0 ν0) := by
  intro n
  induction n with
  | zero => intros; exact G.no
  | succ n ih =>
    intro cb sb hcb hsb x19 x34 x35 γ0 ν0
    have hcb : cb + 5 * n ≤ cX := hcb
    have hsb : sb + 24 * n ≤ sX := hsb
    rw [fl_L_law_1119]
    refine G.iload E dL_law_1119 21 rfl ?_
    refine G.bipush (v := 20) E dL_law_1121 (by decide) ?_
    refine G.icmp_ge (tgt := 1287) E dL_law_1123 (by decide) ?_ ?_
    · refine G.widen (k1 := cX) (n1 := sX) (by omega) (by omega) ?_
      refine G.loc [0, 1, 2, 3, 4, 5, 6, 7, 8, 9, 10, 11, 12, 13, 14, 15, 16, 19] rfl ?_
      exact hK x19 γ0 ν0
    · refine G.ckk (fun hn => ?_)
      refine G.iload E dL_law_1126 20 rfl ?_
      refine G.if_ne (tgt := 1287) E dL_law_1128 (by decide) ?_ ?_
      · refine G.iload E dL_law_1131 21 rfl ?_
        refine G.iload E dL_law_1133 17 rfl ?_
        refine G.iconst (v := 4) E dL_law_1135 (by decide) ?_
        refine G.ishr E dL_law_1136 ?_
        refine G.bipush (v := 20) E dL_law_1137 (by decide) ?_
        refine G.callSi (mc := 0) (ms := 0) (rm := rm_L_low) (n := 2) (As := [.int (x17 >>> (4 &&& 31)), .int 20]) E dL_law_1139 (fun _ hv => Con.inN E.wf (c_L_low (wfL_N E.wf) hv)) gL_law_L_low rfl rfl rfl (by decide +kernel) ⟨Nat.le_of_ble_eq_true rfl, Nat.le_of_ble_eq_true rfl⟩ rfl (Nat.le_of_ble_eq_true rfl) ⟨by show _ ≤ 600104; omega, by show _ ≤ 7301314; omega⟩ (fun v204 => ?_)
        refine G.iadd E dL_law_1142 ?_
        refine G.bipush (v := 20) E dL_law_1143 (by decide) ?_
        refine G.irem E dL_law_1145 (fun v205 => ?_)
        refine G.istore (lv' := [(36, .int v205), (0, .ref b), (1, .ref (h 0)), (2, .ref (h 58)), (3, .ref (h 59)), (4, .ref (h 60)), (5, .ref (h 61)), (6, .ref (h 62)), (7, .ref (h 63)), (8, .ref (h 64)), (9, .ref (h 65)), (10, .ref (h 66)), (11, .ref (h 67)), (12, .ref (h 68)), (13, .ref (h 69)), (14, .int x14), (15, .int x15), (16, .int x16), (17, .int x17), (18, .int x18), (19, .int x19), (34, .int x34), (35, .int x35)]) E dL_law_1146 (by decide) rfl ?_
        refine G.iload E dL_law_1148 19 rfl ?_
        refine G.iload E dL_law_1150 0 rfl ?_
        refine G.aload_n E dL_law_1152 3 rfl rfl ?_
        refine G.callSi (mc := 0) (ms := 0) (rm := rm_L_isThere) (n := 3) (As := [.int x18, .int v205, .ref (h 58)]) E dL_law_1153 (fun _ hv => Con.inN E.wf (c_L_isThere (wfL_N E.wf) hv)) gL_law_L_isThere rfl rfl rfl (by decide +kernel) ⟨Nat.le_of_ble_eq_true rfl, Nat.le_of_ble_eq_true rfl⟩ rfl (Nat.le_of_ble_eq_true rfl) ⟨by show _ ≤ 600104; omega, by show _ ≤ 7301314; omega⟩ (fun v206 => ?_)
        refine G.jn (P := fun j => ∀ (v207 : Int32), G p l e room_1 s m #[Value.ref b] below meth c 40 cb sb D (wsL cy h) (adL h) Q 1183 [(0, .ref b), (1, .ref (h 0)), (2, .ref (h 58)), (3, .ref (h 59)), (4, .ref (h 60)), (5, .ref (h 61)), (6, .ref (h 62)), (7, .ref (h 63)), (8, .ref (h 64)), (9, .ref (h 65)), (10, .ref (h 66)), (11, .ref (h 67)), (12, .ref (h 68)), (13, .ref (h 69)), (14, .int x14), (15, .int x15), (16, .int x16), (17, .int x17), (18, .int x18), (19, .int x19), (35, .int x35), (36, .int v205)] [.int v207] (γ0, ν0) (j v207)) ?_ (fun j1183 hj1183 => ?_)
        · intro v207
          refine G.istore (lv' := [(37, .int v207), (0, .ref b), (1, .ref (h 0)), (2, .ref (h 58)), (3, .ref (h 59)), (4, .ref (h 60)), (5, .ref (h 61)), (6, .ref (h 62)), (7, .ref (h 63)), (8, .ref (h 64)), (9, .ref (h 65)), (10, .ref (h 66)), (11, .ref (h 67)), (12, .ref (h 68)), (13, .ref (h 69)), (14, .int x14), (15, .int x15), (16, .int x16), (17, .int x17), (18, .int x18), (19, .int x19), (35, .int x35), (36, .int v205)]) E dL_law_1183 (by decide) rfl ?_
          refine G.iload E dL_law_1185 0 rfl ?_
          refine G.jn (P := fun j => ∀ (v208 : Int32) (s209 : Wd), G p l e room_1 s m #[Value.ref b] below meth c 40 (cb + 2) (sb + 6) D (wsL cy h) (adL h) Q 1211 [(0, .ref b), (1, .ref (h 0)), (2, .ref (h 58)), (3, .ref (h 59)), (4, .ref (h 60)), (5, .ref (h 61)), (6, .ref (h 62)), (7, .ref (h 63)), (8, .ref (h 64)), (9, .ref (h 65)), (10, .ref (h 66)), (11, .ref (h 67)), (12, .ref (h 68)), (13, .ref (h 69)), (14, .int x14), (15, .int x15), (16, .int x16), (17, .int x17), (18, .int x18), (19, .int x19), (35, .int x35), (36, .int v205), (37, .int v207)] [.int v208] (γ0, s209) (j v208 s209)) ?_ (fun j1211 hj1211 => ?_)
          · intro v208 s209
            refine G.istore (lv' := [(34, .int v208), (0, .ref b), (1, .ref (h 0)), (2, .ref (h 58)), (3, .ref (h 59)), (4, .ref (h 60)), (5, .ref (h 61)), (6, .ref (h 62)), (7, .ref (h 63)), (8, .ref (h 64)), (9, .ref (h 65)), (10, .ref (h 66)), (11, .ref (h 67)), (12, .ref (h 68)), (13, .ref (h 69)), (14, .int x14), (15, .int x15), (16, .int x16), (17, .int x17), (18, .int x18), (19, .int x19), (35, .int x35), (36, .int v205), (37, .int v207)]) E dL_law_1211 (by decide) rfl ?_
            refine G.iload E dL_law_1213 20 rfl ?_
            refine G.aload_n E dL_law_1215 2 rfl rfl ?_
            refine G.iload E dL_law_1216 19 rfl ?_
            refine G.iload E dL_law_1218 22 rfl ?_
            refine G.callWiW (mc := 3) (ms := 18) (rm := rm_L_move) (n := 3) (As := [.ref (h 0), .int x18, .int v205]) (fun x => (x, s209)) E dL_law_1220 (fun _ _ hv => c_L_move E.wf hfl hv) gL_law_L_move rfl rfl rfl (by decide +kernel) ⟨Nat.le_of_ble_eq_true rfl, Nat.le_of_ble_eq_true rfl⟩ rfl (Nat.le_of_ble_eq_true rfl) ⟨by show _ ≤ 600104; omega, by show _ ≤ 7301314; omega⟩ (fun v210 s211 => ?_)
            refine G.iload E dL_law_1223 23 rfl ?_
            refine G.jn (P := fun j => ∀ (v212 : Int32), G p l e room_1 s m #[Value.ref b] below meth c 40 (cb + 5) (sb + 24) D (wsL cy h) (adL h) Q 1246 [(0, .ref b), (1, .ref (h 0)), (2, .ref (h 58)), (3, .ref (h 59)), (4, .ref (h 60)), (5, .ref (h 61)), (6, .ref (h 62)), (7, .ref (h 63)), (8, .ref (h 64)), (9, .ref (h 65)), (10, .ref (h 66)), (11, .ref (h 67)), (12, .ref (h 68)), (13, .ref (h 69)), (14, .int x14), (15, .int x15), (16, .int x16), (17, .int x17), (18, .int x18), (34, .int v208), (35, .int x35), (36, .int v205)] [.int v212, .int v210, .int x19] (s211, s209) (j v212)) ?_ (fun j1246 hj1246 => ?_)
            · intro v212
              refine G.jn (P := fun j => ∀ (v213 : Int32), G p l e room_1 s m #[Value.ref b] below meth c 40 (cb + 5) (sb + 24) D (wsL cy h) (adL h) Q 1254 [(0, .ref b), (1, .ref (h 0)), (2, .ref (h 58)), (3, .ref (h 59)), (4, .ref (h 60)), (5, .ref (h 61)), (6, .ref (h 62)), (7, .ref (h 63)), (8, .ref (h 64)), (9, .ref (h 65)), (10, .ref (h 66)), (11, .ref (h 67)), (12, .ref (h 68)), (13, .ref (h 69)), (14, .int x14), (15, .int x15), (16, .int x16), (17, .int x17), (18, .int x18), (34, .int v208), (35, .int x35), (36, .int v205)] [.int v213, .int x19] (s211, s209) (j v213)) ?_ (fun j1254 hj1254 => ?_)
              · intro v213
                refine G.iand E dL_law_1254 ?_
                refine G.letI (fun v214 => ?_)
                refine G.istore (lv' := [(19, .int v214), (0, .ref b), (1, .ref (h 0)), (2, .ref (h 58)), (3, .ref (h 59)), (4, .ref (h 60)), (5, .ref (h 61)), (6, .ref (h 62)), (7, .ref (h 63)), (8, .ref (h 64)), (9, .ref (h 65)), (10, .ref (h 66)), (11, .ref (h 67)), (12, .ref (h 68)), (13, .ref (h 69)), (14, .int x14), (15, .int x15), (16, .int x16), (17, .int x17), (18, .int x18), (34, .int v208), (35, .int x35), (36, .int v205)]) E dL_law_1255 (by decide) rfl ?_
                refine G.iload E dL_law_1257 20 rfl ?_
                refine G.jn (P := fun j => ∀ (s215 : Wd), G p l e room_1 s m #[Value.ref b] below meth c 40 (cb + 5) (sb + 24) D (wsL cy h) (adL h) Q 1281 [(0, .ref b), (1, .ref (h 0)), (2, .ref (h 58)), (3, .ref (h 59)), (4, .ref (h 60)), (5, .ref (h 61)), (6, .ref (h 62)), (7, .ref (h 63)), (8, .ref (h 64)), (9, .ref (h 65)), (10, .ref (h 66)), (11, .ref (h 67)), (12, .ref (h 68)), (13, .ref (h 69)), (14, .int x14), (15, .int x15), (16, .int x16), (17, .int x17), (18, .int x18), (19, .int v214), (34, .int v208), (35, .int x35)] [] (s211, s215) (j s215)) ?_ (fun j1281 hj1281 => ?_)
                · intro s215
                  refine G.iinc (v := x35 + 1) (lv' := [(35, .int (x35 + 1)), (0, .ref b), (1, .ref (h 0)), (2, .ref (h 58)), (3, .ref (h 59)), (4, .ref (h 60)), (5, .ref (h 61)), (6, .ref (h 62)), (7, .ref (h 63)), (8, .ref (h 64)), (9, .ref (h 65)), (10, .ref (h 66)), (11, .ref (h 67)), (12, .ref (h 68)), (13, .ref (h 69)), (14, .int x14), (15, .int x15), (16, .int x16), (17, .int x17), (18, .int x18), (19, .int v214), (34, .int v208)]) E dL_law_1281 21 rfl rfl (by decide) rfl ?_
                  refine G.goto (tgt := 1119) E dL_law_1284 (by decide) ?_
                  refine G.widen (k1 := cb + 5) (n1 := sb + 24) (by omega) (by omega) ?_
                  refine G.loc [1, 2, 3, 4, 5, 6, 7, 8, 9, 10, 11, 12, 13, 14, 15, 16, 17, 18, 19, 20, 21, 0] rfl ?_
                  exact ih (cb + 5) (sb + 24) (by omega) (by omega) v214 v208 (x35 + 1) s211 s215
                · refine G.if_eq (tgt := 1281) E dL_law_1259 (by decide) ?_ ?_
                  · refine G.widen (k1 := cb + 5) (n1 := sb + 24) (by omega) (by omega) ?_
                    refine G.loc [1, 2, 3, 4, 5, 6, 7, 8, 9, 10, 11, 12, 13, 14, 15, 16, 17, 18, 19, 0, 20, 21] rfl ?_
                    exact hj1281 s209
                  · refine G.aload E dL_law_1262 11 rfl ?_
                    refine G.aload_n E dL_law_1264 3 rfl rfl ?_
                    refine G.iconst (v := 5) E dL_law_1265 (by decide) ?_
                    refine G.dup2 E dL_law_1266 rfl rfl ?_
                    refine G.ialdW (q0 := 58) (p0 := 0) (n := 6) s209 E dL_law_1267 (wsL_at58 _ _ _) (fun v216 => ?_)
                    refine G.dupx2 E dL_law_1268 rfl rfl rfl ?_
                    refine G.iconst (v := 1) E dL_law_1269 (by decide) ?_
                    refine G.iadd E dL_law_1270 ?_
                    refine G.iastW (q0 := 58) (p0 := 0) (n := 6) s209 (fun x => (s211, x)) E dL_law_1271 (wsL_at58 _ _ _) (fun j => (wsL_set58 _ _ _ _ _ j)) (fun s217 => ?_)
                    refine G.bipush (v := 32) E dL_law_1272 (by decide) ?_
                    refine G.iload E dL_law_1274 19 rfl ?_
                    refine G.imul E dL_law_1276 ?_
                    refine G.iload E dL_law_1277 22 rfl ?_
                    refine G.iadd E dL_law_1279 ?_
                    refine G.iastW (q0 := 66) (p0 := 8) (n := 40) s217 (fun x => (s211, x)) E dL_law_1280 (wsL_at66 _ _ _) (fun j => (wsL_set66 _ _ _ _ _ j)) (fun s218 => ?_)
                    refine G.widen (k1 := cb + 5) (n1 := sb + 24) (by omega) (by omega) ?_
                    refine G.loc [1, 2, 3, 4, 5, 6, 7, 8, 9, 10, 11, 12, 13, 14, 15, 16, 17, 18, 19, 0, 20, 21] rfl ?_
                    exact hj1281 s218
              · refine G.icmp_ne (tgt := 1253) E dL_law_1246 (by decide) ?_ ?_
                · refine G.iconst (v := 1) E dL_law_1249 (by decide) ?_
                  refine G.goto (tgt := 1254) E dL_law_1250 (by decide) ?_
                  refine G.widen (k1 := cb + 5) (n1 := sb + 24) (by omega) (by omega) ?_
                  refine G.loc [0, 1, 2, 3, 4, 5, 6, 7, 8, 9, 10, 11, 12, 13, 14, 15, 16, 17, 18, 19, 20, 21] rfl ?_
                  exact hj1254 1
                · refine G.iconst (v := 0) E dL_law_1253 (by decide) ?_
                  refine G.widen (k1 := cb + 5) (n1 := sb + 24) (by omega) (by omega) ?_
                  refine G.loc [0, 1, 2, 3, 4, 5, 6, 7, 8, 9, 10, 11, 12, 13, 14, 15, 16, 17, 18, 19, 20, 21] rfl ?_
                  exact hj1254 0
            · refine G.if_ne (tgt := 1234) E dL_law_1225 (by decide) ?_ ?_
              · refine G.sipush (v := (-7100)) E dL_law_1228 (by decide) ?_
                refine G.goto (tgt := 1246) E dL_law_1231 (by decide) ?_
                refine G.widen (k1 := cb + 5) (n1 := sb + 24) (by omega) (by omega) ?_
                refine G.loc [1, 2, 3, 4, 5, 6, 7, 8, 9, 10, 11, 12, 13, 14, 15, 16, 17, 18, 19, 0, 21, 22] rfl ?_
                exact hj1246 (-7100)
              · refine G.iload E dL_law_1234 0 rfl ?_
                refine G.if_eq (tgt := 1243) E dL_law_1236 (by decide) ?_ ?_
                · refine G.sipush (v := (-7300)) E dL_law_1243 (by decide) ?_
                  refine G.widen (k1 := cb + 5) (n1 := sb + 24) (by omega) (by omega) ?_
                  refine G.loc [1, 2, 3, 4, 5, 6, 7, 8, 9, 10, 11, 12, 13, 14, 15, 16, 17, 18, 19, 0, 21, 22] rfl ?_
                  exact hj1246 (-7300)
                · refine G.iconst (v := 0) E dL_law_1239 (by decide) ?_
                  refine G.goto (tgt := 1246) E dL_law_1240 (by decide) ?_
                  refine G.widen (k1 := cb + 5) (n1 := sb + 24) (by omega) (by omega) ?_
                  refine G.loc [1, 2, 3, 4, 5, 6, 7, 8, 9, 10, 11, 12, 13, 14, 15, 16, 17, 18, 19, 0, 21, 22] rfl ?_
                  exact hj1246 0
          · refine G.jn (P := fun j => ∀ (s219 : Wd), G p l e room_1 s m #[Value.ref b] below meth c 40 (cb + 2) (sb + 6) D (wsL cy h) (adL h) Q 1210 [(0, .ref b), (1, .ref (h 0)), (2, .ref (h 58)), (3, .ref (h 59)), (4, .ref (h 60)), (5, .ref (h 61)), (6, .ref (h 62)), (7, .ref (h 63)), (8, .ref (h 64)), (9, .ref (h 65)), (10, .ref (h 66)), (11, .ref (h 67)), (12, .ref (h 68)), (13, .ref (h 69)), (14, .int x14), (15, .int x15), (16, .int x16), (17, .int x17), (18, .int x18), (19, .int x19), (35, .int x35), (36, .int v205), (37, .int v207)] [] (γ0, s219) (j s219)) ?_ (fun j1210 hj1210 => ?_)
            · intro s219
              refine G.iconst (v := 0) E dL_law_1210 (by decide) ?_
              refine G.widen (k1 := cb + 2) (n1 := sb + 6) (by omega) (by omega) ?_
              refine G.loc [0, 1, 2, 3, 4, 5, 6, 7, 8, 9, 10, 11, 12, 13, 14, 15, 16, 17, 18, 19, 20, 21, 22] rfl ?_
              exact hj1211 0 s219
            · refine G.if_eq (tgt := 1210) E dL_law_1187 (by decide) ?_ ?_
              · refine G.widen (k1 := cb + 2) (n1 := sb + 6) (by omega) (by omega) ?_
                refine G.loc [1, 2, 3, 4, 5, 6, 7, 8, 9, 10, 11, 12, 13, 14, 15, 16, 17, 18, 19, 20, 21, 22, 0] rfl ?_
                exact hj1210 ν0
              · refine G.iload E dL_law_1190 19 rfl ?_
                refine G.iload E dL_law_1192 22 rfl ?_
                refine G.aload_n E dL_law_1194 3 rfl rfl ?_
                refine G.aload_n E dL_law_1195 4 rfl rfl ?_
                refine G.aload E dL_law_1196 5 rfl ?_
                refine G.aload E dL_law_1198 6 rfl ?_
                refine G.callSiW (mc := 2) (ms := 6) (rm := rm_L_does) (n := 6) (As := [.int x18, .int v205, .ref (h 58), .ref (h 59), .ref (h 60), .ref (h 61)]) (fun x => (γ0, x)) E dL_law_1200 (fun _ _ hv => Con.inN E.wf (c_L_does (wfL_N E.wf) hv)) gL_law_L_does rfl rfl rfl (by decide +kernel) ⟨Nat.le_of_ble_eq_true rfl, Nat.le_of_ble_eq_true rfl⟩ rfl (Nat.le_of_ble_eq_true rfl) ⟨by show _ ≤ 600104; omega, by show _ ≤ 7301314; omega⟩ (fun v220 s221 => ?_)
                refine G.if_eq (tgt := 1210) E dL_law_1203 (by decide) ?_ ?_
                · refine G.widen (k1 := cb + 2) (n1 := sb + 6) (by omega) (by omega) ?_
                  refine G.loc [1, 2, 3, 4, 5, 6, 7, 8, 9, 10, 11, 12, 13, 14, 15, 16, 17, 18, 19, 20, 21, 22, 0] rfl ?_
                  exact hj1210 s221
                · refine G.iconst (v := 1) E dL_law_1206 (by decide) ?_
                  refine G.goto (tgt := 1211) E dL_law_1207 (by decide) ?_
                  refine G.widen (k1 := cb + 2) (n1 := sb + 6) (by omega) (by omega) ?_
                  refine G.loc [1, 2, 3, 4, 5, 6, 7, 8, 9, 10, 11, 12, 13, 14, 15, 16, 17, 18, 19, 20, 21, 22, 0] rfl ?_
                  exact hj1211 1 s221
        · refine G.jn (P := fun j => ∀ (_u : Unit), G p l e room_1 s m #[Value.ref b] below meth c 40 cb sb D (wsL cy h) (adL h) Q 1182 [(0, .ref b), (1, .ref (h 0)), (2, .ref (h 58)), (3, .ref (h 59)), (4, .ref (h 60)), (5, .ref (h 61)), (6, .ref (h 62)), (7, .ref (h 63)), (8, .ref (h 64)), (9, .ref (h 65)), (10, .ref (h 66)), (11, .ref (h 67)), (12, .ref (h 68)), (13, .ref (h 69)), (14, .int x14), (15, .int x15), (16, .int x16), (17, .int x17), (18, .int x18), (19, .int x19), (35, .int x35), (36, .int v205)] [] (γ0, ν0) (j _u)) ?_ (fun j1182 hj1182 => ?_)
          · intro _u
            refine G.iconst (v := 0) E dL_law_1182 (by decide) ?_
            refine G.widen (k1 := cb) (n1 := sb) (by omega) (by omega) ?_
            refine G.loc [0, 1, 2, 3, 4, 5, 6, 7, 8, 9, 10, 11, 12, 13, 14, 15, 16, 17, 18, 19, 20, 21] rfl ?_
            exact hj1183 0
          · refine G.if_eq (tgt := 1182) E dL_law_1156 (by decide) ?_ ?_
            · refine G.widen (k1 := cb) (n1 := sb) (by omega) (by omega) ?_
              refine G.loc [1, 2, 3, 4, 5, 6, 7, 8, 9, 10, 11, 12, 13, 14, 15, 16, 17, 18, 19, 20, 22, 0] rfl ?_
              exact hj1182 ()
            · refine G.iload E dL_law_1159 19 rfl ?_
              refine G.iconst (v := 2) E dL_law_1161 (by decide) ?_
              refine G.jn (P := fun j => ∀ (_u : Unit), G p l e room_1 s m #[Value.ref b] below meth c 40 cb sb D (wsL cy h) (adL h) Q 1178 [(0, .ref b), (1, .ref (h 0)), (2, .ref (h 58)), (3, .ref (h 59)), (4, .ref (h 60)), (5, .ref (h 61)), (6, .ref (h 62)), (7, .ref (h 63)), (8, .ref (h 64)), (9, .ref (h 65)), (10, .ref (h 66)), (11, .ref (h 67)), (12, .ref (h 68)), (13, .ref (h 69)), (14, .int x14), (15, .int x15), (16, .int x16), (17, .int x17), (18, .int x18), (19, .int x19), (35, .int x35), (36, .int v205)] [] (γ0, ν0) (j _u)) ?_ (fun j1178 hj1178 => ?_)
              · intro _u
                refine G.iconst (v := 1) E dL_law_1178 (by decide) ?_
                refine G.goto (tgt := 1183) E dL_law_1179 (by decide) ?_
                refine G.widen (k1 := cb) (n1 := sb) (by omega) (by omega) ?_
                refine G.loc [0, 1, 2, 3, 4, 5, 6, 7, 8, 9, 10, 11, 12, 13, 14, 15, 16, 17, 18, 19, 20, 21] rfl ?_
                exact hj1183 1
              · refine G.icmp_lt (tgt := 1178) E dL_law_1162 (by decide) ?_ ?_
                · refine G.widen (k1 := cb) (n1 := sb) (by omega) (by omega) ?_
                  refine G.loc [1, 2, 3, 4, 5, 6, 7, 8, 9, 10, 11, 12, 13, 14, 15, 16, 17, 18, 19, 20, 22, 0] rfl ?_
                  exact hj1178 ()
                · refine G.iload E dL_law_1165 19 rfl ?_
                  refine G.iconst (v := 5) E dL_law_1167 (by decide) ?_
                  refine G.icmp_eq (tgt := 1178) E dL_law_1168 (by decide) ?_ ?_
                  · refine G.widen (k1 := cb) (n1 := sb) (by omega) (by omega) ?_
                    refine G.loc [1, 2, 3, 4, 5, 6, 7, 8, 9, 10, 11, 12, 13, 14, 15, 16, 17, 18, 19, 20, 22, 0] rfl ?_
                    exact hj1178 ()
                  · refine G.iload E dL_law_1171 0 rfl ?_
                    refine G.bipush (v := 7) E dL_law_1173 (by decide) ?_
                    refine G.icmp_ge (tgt := 1182) E dL_law_1175 (by decide) ?_ ?_
                    · refine G.widen (k1 := cb) (n1 := sb) (by omega) (by omega) ?_
                      refine G.loc [1, 2, 3, 4, 5, 6, 7, 8, 9, 10, 11, 12, 13, 14, 15, 16, 17, 18, 19, 20, 22, 0] rfl ?_
                      exact hj1182 ()
                    · refine G.widen (k1 := cb) (n1 := sb) (by omega) (by omega) ?_
                      refine G.loc [1, 2, 3, 4, 5, 6, 7, 8, 9, 10, 11, 12, 13, 14, 15, 16, 17, 18, 19, 20, 22, 0] rfl ?_
                      exact hj1178 ()
      · refine G.widen (k1 := cX) (n1 := sX) (by omega) (by omega) ?_
        refine G.loc [0, 1, 2, 3, 4, 5, 6, 7, 8, 9, 10, 11, 12, 13, 14, 15, 16, 19] rfl ?_
        exact hK x19 γ0 ν0
noncomputable def fl_L_law_84 (N : Nat) (L : Nat) (xs : Nat → Int32) (K : Wd → Wd → Option (Unit)) : Nat → Int32 → Int32 → Wd → Wd → Option (Unit)
  | 0, _, _, _, _ => none
  | n + 1, x14, x15, γ0, ν0 =>
    if 60 ≤ x15 then (
      K γ0 ν0)
    else (
      ck n (
        bP (f_L_cell N L xs (2 * x15)) fun v1 =>
        bP (f_L_cell N L xs ((2 * x15) + 1)) fun v2 =>
        jn (fun (v3 : Int32) => ((
          jn (fun (v4 : Int32) (v5 : Int32) (s6 : Wd) (s7 : Wd) => ((
            rI s7 0 6 5 fun v8 =>
            jn (fun (s9 : Wd) => ((
              bP (f_L_rest N s9) fun v10 =>
              fl_L_law_1336 N L xs s6 s9 v4 x15 v1 v5 v10 (fun v18 =>
                if v5 = 0 then (
                  none)
                else (
                  bS (f_X7_keeps N s6) fun v19 s20 =>
                  if v19 = v18 then (
                    bS (f_L_isTold N s20 s9 v1) fun v21 s22 =>
                    if v21 = 0 then (
                      none)
                    else (
                      fl_L_law_84 N L xs K n v4 (x15 + 1) s22 s9))
                  else (
                    none))) 8 1 0) : Option (Unit))) fun j1319 =>
            if v8 = 0 then (
              bP (f_L_copies_0_4 N s7) fun s23 =>
              bP (f_L_copies_1_5 N s23) fun s24 =>
              bP (f_L_copies_2_6 N s24) fun s25 =>
              bP (f_L_copies_3_7 N s25) fun s26 =>
              j1319 s26)
            else (
              j1319 s7)) : Option (Unit))) fun j1287 =>
          if v3 = 0 then (
            rI ν0 0 6 0 fun v27 =>
            if v27 = 7 then (
              j1287 x14 1 γ0 ν0)
            else (
              rI ν0 0 6 0 fun v28 =>
              jn (fun (_u : Unit) => ((
                jn (fun (v29 : Int32) => ((
                  bS (f_L_node N γ0 v29) fun v30 s31 =>
                  rI ν0 0 6 0 fun v32 =>
                  jn (fun (v33 : Int32) => ((
                    rI ν0 0 6 1 fun v34 =>
                    rI ν0 0 6 0 fun v35 =>
                    aI ν0 0 6 1 (v34 ||| (1 <<< (v35 &&& 31))) fun s36 =>
                    jn (fun (v37 : Int32) => ((
                      aI s36 0 6 2 v37 fun s38 =>
                      rI s38 0 6 0 fun v39 =>
                      aI s38 9 7 v39 0 fun s40 =>
                      rI s40 0 6 0 fun v41 =>
                      aI s40 0 6 0 (v41 + 1) fun s42 =>
                      aI s42 0 6 5 0 fun s43 =>
                      j1287 x14 v33 s31 s43) : Option (Unit))) fun j314 =>
                    if v29 = 0 then (
                      rI s36 0 6 2 fun v44 =>
                      rI s36 0 6 0 fun v45 =>
                      j314 (v44 &&& ((1 <<< (v45 &&& 31)) ^^^ (-1))))
                    else (
                      rI s36 0 6 2 fun v46 =>
                      rI s36 0 6 0 fun v47 =>
                      j314 (v46 ||| (1 <<< (v47 &&& 31))))) : Option (Unit))) fun j271 =>
                  if v30 = v32 then (
                    j271 1)
                  else (
                    j271 0)) : Option (Unit))) fun j252 =>
                jn (fun (_u : Unit) => ((
                  j252 1) : Option (Unit))) fun j247 =>
                if x15 = 0 then (
                  j247 ())
                else (
                  if x15 = 3 then (
                    j247 ())
                  else (
                    jn (fun (_u : Unit) => ((
                      j252 0) : Option (Unit))) fun j251 =>
                    if x15 ≤ 3 then (
                      j251 ())
                    else (
                      if (v2 &&& 2) = 2 then (
                        j247 ())
                      else (
                        j251 ()))))) : Option (Unit))) fun j222 =>
              if v28 = 6 then (
                if 40 ≤ x15 then (
                  j222 ())
                else (
                  j1287 x14 1 γ0 ν0))
              else (
                j222 ())))
          else if v3 = 1 then (
            bP (f_L_low N v2 7) fun v48 =>
            bP (f_L_low N (v2 >>> (5 &&& 31)) 7) fun v49 =>
            jn (fun (v50 : Int32) => ((
              rI ν0 0 6 1 fun v51 =>
              jn (fun (v52 : Int32) => ((
                fl_L_law_432 N L xs γ0 ν0 x14 x15 v1 v48 v49 v50 v52 (fun v55 =>
                  jn (fun (v56 : Int32) => ((
                    bS (f_L_wire N γ0 v48 v49 v50) fun v57 s58 =>
                    jn (fun (v59 : Int32) => ((
                      jn (fun (v60 : Int32) => ((
                        if v56 = 0 then (
                          j1287 x14 v60 s58 ν0)
                        else (
                          bS (f_L_adds N ν0 v48 v49 v50) fun v61 s62 =>
                          aI s62 0 6 5 0 fun s63 =>
                          j1287 x14 v60 s58 s63)) : Option (Unit))) fun j528 =>
                      if v57 = v59 then (
                        j528 1)
                      else (
                        j528 0)) : Option (Unit))) fun j520 =>
                    if v52 = 0 then (
                      j520 (-7100))
                    else (
                      if v56 = 0 then (
                        j520 (-7300))
                      else (
                        rI ν0 0 6 3 fun v64 =>
                        j520 v64))) : Option (Unit))) fun j483 =>
                  jn (fun (_u : Unit) => ((
                    j483 0) : Option (Unit))) fun j482 =>
                  if v52 = 0 then (
                    j482 ())
                  else (
                    rI ν0 0 6 3 fun v65 =>
                    if 20 ≤ v65 then (
                      j482 ())
                    else (
                      if 12 ≤ v55 then (
                        j482 ())
                      else (
                        j483 1)))) N 0 0) : Option (Unit))) fun j424 =>
              jn (fun (_u : Unit) => ((
                j424 0) : Option (Unit))) fun j423 =>
              if ((v51 >>> (v48 &&& 31)) &&& 1) = 1 then (
                rI ν0 0 6 1 fun v66 =>
                if ((v66 >>> (v49 &&& 31)) &&& 1) = 1 then (
                  j424 1)
                else (
                  j423 ()))
              else (
                j423 ())) : Option (Unit))) fun j393 =>
            if (v2 &&& 8) = 0 then (
              bP (f_L_low N (v2 >>> (9 &&& 31)) 60) fun v68 =>
              j393 (1 + v68))
            else (
              bP (f_L_low N (v2 >>> (9 &&& 31)) 6) fun v67 =>
              j393 (2 + (2 * v67))))
          else if v3 = 2 then (
            bP (f_L_low N v2 7) fun v69 =>
            bP (f_L_low N (v2 >>> (5 &&& 31)) 7) fun v70 =>
            jn (fun (v71 : Int32) => ((
              rI ν0 0 6 1 fun v72 =>
              jn (fun (v73 : Int32) => ((
                fl_L_law_432 N L xs γ0 ν0 x14 x15 v1 v69 v70 v71 v73 (fun v74 =>
                  jn (fun (v75 : Int32) => ((
                    bS (f_L_wire N γ0 v69 v70 v71) fun v76 s77 =>
                    jn (fun (v78 : Int32) => ((
                      jn (fun (v79 : Int32) => ((
                        if v75 = 0 then (
                          j1287 x14 v79 s77 ν0)
                        else (
                          bS (f_L_adds N ν0 v69 v70 v71) fun v80 s81 =>
                          aI s81 0 6 5 0 fun s82 =>
                          j1287 x14 v79 s77 s82)) : Option (Unit))) fun j528 =>
                      if v76 = v78 then (
                        j528 1)
                      else (
                        j528 0)) : Option (Unit))) fun j520 =>
                    if v73 = 0 then (
                      j520 (-7100))
                    else (
                      if v75 = 0 then (
                        j520 (-7300))
                      else (
                        rI ν0 0 6 3 fun v83 =>
                        j520 v83))) : Option (Unit))) fun j483 =>
                  jn (fun (_u : Unit) => ((
                    j483 0) : Option (Unit))) fun j482 =>
                  if v73 = 0 then (
                    j482 ())
                  else (
                    rI ν0 0 6 3 fun v84 =>
                    if 20 ≤ v84 then (
                      j482 ())
                    else (
                      if 12 ≤ v74 then (
                        j482 ())
                      else (
                        j483 1)))) N 0 0) : Option (Unit))) fun j424 =>
              jn (fun (_u : Unit) => ((
                j424 0) : Option (Unit))) fun j423 =>
              if ((v72 >>> (v69 &&& 31)) &&& 1) = 1 then (
                rI ν0 0 6 1 fun v85 =>
                if ((v85 >>> (v70 &&& 31)) &&& 1) = 1 then (
                  j424 1)
                else (
                  j423 ()))
              else (
                j423 ())) : Option (Unit))) fun j393 =>
            if (v2 &&& 8) = 0 then (
              bP (f_L_low N (v2 >>> (9 &&& 31)) 60) fun v87 =>
              j393 (1 + v87))
            else (
              bP (f_L_low N (v2 >>> (9 &&& 31)) 6) fun v86 =>
              j393 (2 + (2 * v86))))
          else if v3 = 3 then (
            bP (f_L_low N v2 7) fun v88 =>
            bP (f_L_low N (v2 >>> (5 &&& 31)) 7) fun v89 =>
            jn (fun (v90 : Int32) => ((
              rI ν0 0 6 1 fun v91 =>
              jn (fun (v92 : Int32) => ((
                fl_L_law_432 N L xs γ0 ν0 x14 x15 v1 v88 v89 v90 v92 (fun v93 =>
                  jn (fun (v94 : Int32) => ((
                    bS (f_L_wire N γ0 v88 v89 v90) fun v95 s96 =>
                    jn (fun (v97 : Int32) => ((
                      jn (fun (v98 : Int32) => ((
                        if v94 = 0 then (
                          j1287 x14 v98 s96 ν0)
                        else (
                          bS (f_L_adds N ν0 v88 v89 v90) fun v99 s100 =>
                          aI s100 0 6 5 0 fun s101 =>
                          j1287 x14 v98 s96 s101)) : Option (Unit))) fun j528 =>
                      if v95 = v97 then (
                        j528 1)
                      else (
                        j528 0)) : Option (Unit))) fun j520 =>
                    if v92 = 0 then (
                      j520 (-7100))
                    else (
                      if v94 = 0 then (
                        j520 (-7300))
                      else (
                        rI ν0 0 6 3 fun v102 =>
                        j520 v102))) : Option (Unit))) fun j483 =>
                  jn (fun (_u : Unit) => ((
                    j483 0) : Option (Unit))) fun j482 =>
                  if v92 = 0 then (
                    j482 ())
                  else (
                    rI ν0 0 6 3 fun v103 =>
                    if 20 ≤ v103 then (
                      j482 ())
                    else (
                      if 12 ≤ v93 then (
                        j482 ())
                      else (
                        j483 1)))) N 0 0) : Option (Unit))) fun j424 =>
              jn (fun (_u : Unit) => ((
                j424 0) : Option (Unit))) fun j423 =>
              if ((v91 >>> (v88 &&& 31)) &&& 1) = 1 then (
                rI ν0 0 6 1 fun v104 =>
                if ((v104 >>> (v89 &&& 31)) &&& 1) = 1 then (
                  j424 1)
                else (
                  j423 ()))
              else (
                j423 ())) : Option (Unit))) fun j393 =>
            if (v2 &&& 8) = 0 then (
              bP (f_L_low N (v2 >>> (9 &&& 31)) 60) fun v106 =>
              j393 (1 + v106))
            else (
              bP (f_L_low N (v2 >>> (9 &&& 31)) 6) fun v105 =>
              j393 (2 + (2 * v105))))
          else if v3 = 4 then (
            bP (f_L_low N v2 7) fun v107 =>
            bP (f_L_low N (v2 >>> (5 &&& 31)) 7) fun v108 =>
            jn (fun (v109 : Int32) => ((
              rI ν0 0 6 1 fun v110 =>
              jn (fun (v111 : Int32) => ((
                fl_L_law_432 N L xs γ0 ν0 x14 x15 v1 v107 v108 v109 v111 (fun v112 =>
                  jn (fun (v113 : Int32) => ((
                    bS (f_L_wire N γ0 v107 v108 v109) fun v114 s115 =>
                    jn (fun (v116 : Int32) => ((
                      jn (fun (v117 : Int32) => ((
                        if v113 = 0 then (
                          j1287 x14 v117 s115 ν0)
                        else (
                          bS (f_L_adds N ν0 v107 v108 v109) fun v118 s119 =>
                          aI s119 0 6 5 0 fun s120 =>
                          j1287 x14 v117 s115 s120)) : Option (Unit))) fun j528 =>
                      if v114 = v116 then (
                        j528 1)
                      else (
                        j528 0)) : Option (Unit))) fun j520 =>
                    if v111 = 0 then (
                      j520 (-7100))
                    else (
                      if v113 = 0 then (
                        j520 (-7300))
                      else (
                        rI ν0 0 6 3 fun v121 =>
                        j520 v121))) : Option (Unit))) fun j483 =>
                  jn (fun (_u : Unit) => ((
                    j483 0) : Option (Unit))) fun j482 =>
                  if v111 = 0 then (
                    j482 ())
                  else (
                    rI ν0 0 6 3 fun v122 =>
                    if 20 ≤ v122 then (
                      j482 ())
                    else (
                      if 12 ≤ v112 then (
                        j482 ())
                      else (
                        j483 1)))) N 0 0) : Option (Unit))) fun j424 =>
              jn (fun (_u : Unit) => ((
                j424 0) : Option (Unit))) fun j423 =>
              if ((v110 >>> (v107 &&& 31)) &&& 1) = 1 then (
                rI ν0 0 6 1 fun v123 =>
                if ((v123 >>> (v108 &&& 31)) &&& 1) = 1 then (
                  j424 1)
                else (
                  j423 ()))
              else (
                j423 ())) : Option (Unit))) fun j393 =>
            if (v2 &&& 8) = 0 then (
              bP (f_L_low N (v2 >>> (9 &&& 31)) 60) fun v125 =>
              j393 (1 + v125))
            else (
              bP (f_L_low N (v2 >>> (9 &&& 31)) 6) fun v124 =>
              j393 (2 + (2 * v124))))
          else if v3 = 5 then (
            bP (f_L_low N v2 7) fun v126 =>
            rI ν0 0 6 1 fun v127 =>
            rI ν0 0 6 2 fun v128 =>
            jn (fun (v129 : Int32) => ((
              bP (f_L_low N (v2 >>> (4 &&& 31)) 199) fun v130 =>
              bS (f_L_value N γ0 v126 (v130 - 99)) fun v131 s132 =>
              jn (fun (v133 : Int32) => ((
                jn (fun (v134 : Int32) => ((
                  jn (fun (v135 : Int32) => ((
                    aI ν0 9 7 v126 v135 fun s136 =>
                    j1287 x14 v134 s132 s136) : Option (Unit))) fun j663 =>
                  if v129 = 0 then (
                    rI ν0 9 7 v126 fun v137 =>
                    j663 v137)
                  else (
                    bP (f_L_low N (v2 >>> (4 &&& 31)) 199) fun v138 =>
                    j663 (v138 - 99))) : Option (Unit))) fun j631 =>
                if v131 = v133 then (
                  j631 1)
                else (
                  j631 0)) : Option (Unit))) fun j623 =>
              if v129 = 0 then (
                j623 (-7100))
              else (
                j623 0)) : Option (Unit))) fun j590 =>
            if ((v127 &&& v128) &&& (1 <<< (v126 &&& 31))) ≤ 0 then (
              j590 0)
            else (
              j590 1))
          else if v3 = 6 then (
            bS (f_X7_simplify N γ0) fun v139 s140 =>
            fl_L_law_679 N L xs s140 x14 x15 v1 v139 (fun v155 s156 =>
              jn (fun (v157 : Int32) (s158 : Wd) => ((
                j1287 x14 v157 s158 s156) : Option (Unit))) fun j808 =>
              jn (fun (s159 : Wd) => ((
                j808 0 s159) : Option (Unit))) fun j807 =>
              if v139 = v155 then (
                bS (f_X7_simplify N s140) fun v160 s161 =>
                if v160 = 0 then (
                  bP (f_X7_wires N s161) fun v162 =>
                  rI s156 0 6 4 fun v163 =>
                  if v162 = v163 then (
                    j808 1 s161)
                  else (
                    j807 s161))
                else (
                  j807 s161))
              else (
                j807 s140)) 1100 0 0 ν0)
          else if v3 = 7 then (
            bS (f_L_undo N γ0) fun v164 s165 =>
            rI ν0 0 6 5 fun v166 =>
            jn (fun (v167 : Int32) => ((
              jn (fun (v168 : Int32) => ((
                rI ν0 0 6 5 fun v169 =>
                if v169 = 0 then (
                  j1287 x14 v168 s165 ν0)
                else (
                  rI ν0 0 6 5 fun v170 =>
                  lI (v170 - 1) fun v171 =>
                  bP (f_L_copies_4_0 N ν0) fun s172 =>
                  bP (f_L_copies_5_1 N s172) fun s173 =>
                  bP (f_L_copies_6_2 N s173) fun s174 =>
                  bP (f_L_copies_7_3 N s174) fun s175 =>
                  fl_L_law_889 N L xs s165 x14 x15 v1 v171 (fun v183 s184 =>
                    aI s184 0 6 5 v171 fun s185 =>
                    j1287 x14 v183 s165 s185) 25 v168 0 s175)) : Option (Unit))) fun j842 =>
              if v164 = v167 then (
                j842 1)
              else (
                j842 0)) : Option (Unit))) fun j834 =>
            if v166 = 0 then (
              j834 (-7300))
            else (
              rI ν0 0 6 5 fun v186 =>
              j834 (v186 - 1)))
          else if v3 = 8 then (
            bP (f_X7_mark N γ0) fun s187 =>
            rI ν0 0 6 1 fun v188 =>
            rI ν0 0 6 2 fun v189 =>
            lI ((v188 &&& v189) ||| 128) fun v190 =>
            bP (f_L_rest N ν0) fun v191 =>
            fl_L_law_971 N L xs s187 v190 x15 v1 1 v191 (fun s202 =>
              j1287 v190 1 s187 s202) 8 0 ν0)
          else (
            bP (f_L_low N v2 6) fun v203 =>
            fl_L_law_1119 N L xs x14 x15 v1 v2 v203 (fun v222 s223 s224 =>
              j1287 x14 v222 s223 s224) 21 1 0 0 γ0 ν0)) : Option (Unit))) fun j147 =>
        if 4 ≤ x15 then (
          if 9 ≤ x15 then (
            bP (f_L_low N v1 16) fun v225 =>
            j147 v225)
          else (
            j147 2))
        else (
          j147 0)))
set_option maxHeartbeats 4000000 in
set_option maxRecDepth 100000 in
theorem gl_L_law_84 {N L b : Nat} {xs : Nat → Int32} {cX sX : Nat} {K : Wd → Wd → Option (Unit)} (E : EV p s m #[Value.ref b] meth c cL_law 40 RL wsL_law ret D cy (wsL cy h) (adL h)) (hfl : l.stackTraces = false) (X0 : SX s (adL h) b L xs) (hge : ∀ q ∈ adL h, s.heap.size ≤ q) (hcX : cX ≤ 600104) (hsX : sX ≤ 7301314) (hK : ∀ (γ0' : Wd) (ν0' : Wd), G p l e room_1 s m #[Value.ref b] below meth c 40 cX sX D (wsL cy h) (adL h) (fun _ : Unit => lw_Z below #[Value.ref b] s) 1476 [(1, .ref (h 0))] [] (γ0', ν0') (K γ0' ν0')) :
  ∀ (n cb sb : Nat), cb + 3758 * (n - 1) ≤ cX → sb + 78422 * (n - 1) ≤ sX → ∀ (x14 : Int32) (x15 : Int32) (γ0 : Wd) (ν0 : Wd), G p l e room_1 s m #[Value.ref b] below meth c 40 cb sb D (wsL cy h) (adL h) (fun _ : Unit => lw_Z below #[Value.ref b] s) 84 [(0, .ref b), (1, .ref (h 0)), (2, .ref (h 58)), (3, .ref (h 59)), (4, .ref (h 60)), (5, .ref (h 61)), (6, .ref (h 62)), (7, .ref (h 63)), (8, .ref (h 64)), (9, .ref (h 65)), (10, .ref (h 66)), (11, .ref (h 67)), (12, .ref (h 68)), (13, .ref (h 69)), (14, .int x14), (15, .int x15)] [] (γ0, ν0) (fl_L_law_84 N L xs K n x14 x15 γ0 ν0) := by
  intro n
  induction n with
  | zero => intros; exact G.no
  | succ n ih =>
    intro cb sb hcb hsb x14 x15 γ0 ν0
    have hcb : cb + 3758 * n ≤ cX := hcb
    have hsb : sb + 78422 * n ≤ sX := hsb
    rw [fl_L_law_84]
    refine G.iload E dL_law_84 15 rfl ?_
    refine G.bipush (v := 60) E dL_law_86 (by decide) ?_
    refine G.icmp_ge (tgt := 1476) E dL_law_88 (by decide) ?_ ?_
    · refine G.widen (k1 := cX) (n1 := sX) (by omega) (by omega) ?_
      refine G.loc [1] rfl ?_
      exact hK γ0 ν0
    · refine G.ckk (fun hn => ?_)
      refine G.aload_n E dL_law_91 0 rfl rfl ?_
      refine G.iconst (v := 2) E dL_law_92 (by decide) ?_
      refine G.iload E dL_law_93 15 rfl ?_
      refine G.imul E dL_law_95 ?_
      refine G.callCell (n := 2) (rm := rm_L_cell) (As := [.ref b, .int (2 * x15)]) E X0 dL_law_96 (fun _ hv => c_L_cell (N := N) E.wf hv) gL_law_L_cell rfl rfl rfl (by decide +kernel) ⟨Nat.le_of_ble_eq_true rfl, Nat.le_of_ble_eq_true rfl⟩ rfl (Nat.le_of_ble_eq_true rfl) ⟨by show _ ≤ 600104; omega, by show _ ≤ 7301314; omega⟩ (fun v1 => ?_)
      refine G.istore (lv' := [(16, .int v1), (0, .ref b), (1, .ref (h 0)), (2, .ref (h 58)), (3, .ref (h 59)), (4, .ref (h 60)), (5, .ref (h 61)), (6, .ref (h 62)), (7, .ref (h 63)), (8, .ref (h 64)), (9, .ref (h 65)), (10, .ref (h 66)), (11, .ref (h 67)), (12, .ref (h 68)), (13, .ref (h 69)), (14, .int x14), (15, .int x15)]) E dL_law_99 (by decide) rfl ?_
      refine G.aload_n E dL_law_101 1 rfl rfl ?_
      refine G.iconst (v := 2) E dL_law_102 (by decide) ?_
      refine G.iload E dL_law_103 16 rfl ?_
      refine G.imul E dL_law_105 ?_
      refine G.iconst (v := 1) E dL_law_106 (by decide) ?_
      refine G.iadd E dL_law_107 ?_
      refine G.callCell (n := 2) (rm := rm_L_cell) (As := [.ref b, .int ((2 * x15) + 1)]) E X0 dL_law_108 (fun _ hv => c_L_cell (N := N) E.wf hv) gL_law_L_cell rfl rfl rfl (by decide +kernel) ⟨Nat.le_of_ble_eq_true rfl, Nat.le_of_ble_eq_true rfl⟩ rfl (Nat.le_of_ble_eq_true rfl) ⟨by show _ ≤ 600104; omega, by show _ ≤ 7301314; omega⟩ (fun v2 => ?_)
      refine G.istore (lv' := [(17, .int v2), (16, .int v1), (0, .ref b), (1, .ref (h 0)), (2, .ref (h 58)), (3, .ref (h 59)), (4, .ref (h 60)), (5, .ref (h 61)), (6, .ref (h 62)), (7, .ref (h 63)), (8, .ref (h 64)), (9, .ref (h 65)), (10, .ref (h 66)), (11, .ref (h 67)), (12, .ref (h 68)), (13, .ref (h 69)), (14, .int x14), (15, .int x15)]) E dL_law_111 (by decide) rfl ?_
      refine G.iconst (v := 0) E dL_law_113 (by decide) ?_
      refine G.istore (lv' := [(18, .int 0), (17, .int v2), (16, .int v1), (0, .ref b), (1, .ref (h 0)), (2, .ref (h 58)), (3, .ref (h 59)), (4, .ref (h 60)), (5, .ref (h 61)), (6, .ref (h 62)), (7, .ref (h 63)), (8, .ref (h 64)), (9, .ref (h 65)), (10, .ref (h 66)), (11, .ref (h 67)), (12, .ref (h 68)), (13, .ref (h 69)), (14, .int x14), (15, .int x15)]) E dL_law_114 (by decide) rfl ?_
      refine G.iconst (v := 1) E dL_law_116 (by decide) ?_
      refine G.istore (lv' := [(19, .int 1), (18, .int 0), (17, .int v2), (16, .int v1), (0, .ref b), (1, .ref (h 0)), (2, .ref (h 58)), (3, .ref (h 59)), (4, .ref (h 60)), (5, .ref (h 61)), (6, .ref (h 62)), (7, .ref (h 63)), (8, .ref (h 64)), (9, .ref (h 65)), (10, .ref (h 66)), (11, .ref (h 67)), (12, .ref (h 68)), (13, .ref (h 69)), (14, .int x14), (15, .int x15)]) E dL_law_117 (by decide) rfl ?_
      refine G.iload E dL_law_119 19 rfl ?_
      refine G.iconst (v := 4) E dL_law_121 (by decide) ?_
      refine G.jn (P := fun j => ∀ (v3 : Int32), G p l e room_1 s m #[Value.ref b] below meth c 40 cb sb D (wsL cy h) (adL h) (fun _ : Unit => lw_Z below #[Value.ref b] s) 147 [(0, .ref b), (1, .ref (h 0)), (2, .ref (h 58)), (3, .ref (h 59)), (4, .ref (h 60)), (5, .ref (h 61)), (6, .ref (h 62)), (7, .ref (h 63)), (8, .ref (h 64)), (9, .ref (h 65)), (10, .ref (h 66)), (11, .ref (h 67)), (12, .ref (h 68)), (13, .ref (h 69)), (14, .int x14), (15, .int x15), (16, .int v1), (17, .int v2), (19, .int 1)] [.int v3] (γ0, ν0) (j v3)) ?_ (fun j147 hj147 => ?_)
      · intro v3
        refine G.jn (P := fun j => ∀ (v4 : Int32) (v5 : Int32) (s6 : Wd) (s7 : Wd), G p l e room_1 s m #[Value.ref b] below meth c 40 (cb + 2198) (sb + 23927) D (wsL cy h) (adL h) (fun _ : Unit => lw_Z below #[Value.ref b] s) 1287 [(0, .ref b), (1, .ref (h 0)), (2, .ref (h 58)), (3, .ref (h 59)), (4, .ref (h 60)), (5, .ref (h 61)), (6, .ref (h 62)), (7, .ref (h 63)), (8, .ref (h 64)), (9, .ref (h 65)), (10, .ref (h 66)), (11, .ref (h 67)), (12, .ref (h 68)), (13, .ref (h 69)), (14, .int v4), (15, .int x15), (16, .int v1), (19, .int v5)] [] (s6, s7) (j v4 v5 s6 s7)) ?_ (fun j1287 hj1287 => ?_)
        · intro v4 v5 s6 s7
          refine G.aload_n E dL_law_1287 2 rfl rfl ?_
          refine G.iconst (v := 5) E dL_law_1288 (by decide) ?_
          refine G.ialdW (q0 := 58) (p0 := 0) (n := 6) s7 E dL_law_1289 (wsL_at58 _ _ _) (fun v8 => ?_)
          refine G.jn (P := fun j => ∀ (s9 : Wd), G p l e room_1 s m #[Value.ref b] below meth c 40 (cb + 2198) (sb + 23927) D (wsL cy h) (adL h) (fun _ : Unit => lw_Z below #[Value.ref b] s) 1319 [(0, .ref b), (1, .ref (h 0)), (2, .ref (h 58)), (3, .ref (h 59)), (4, .ref (h 60)), (5, .ref (h 61)), (6, .ref (h 62)), (7, .ref (h 63)), (8, .ref (h 64)), (9, .ref (h 65)), (10, .ref (h 66)), (11, .ref (h 67)), (12, .ref (h 68)), (13, .ref (h 69)), (14, .int v4), (15, .int x15), (16, .int v1), (19, .int v5)] [] (s6, s9) (j s9)) ?_ (fun j1319 hj1319 => ?_)
          · intro s9
            refine G.iconst (v := 1) E dL_law_1319 (by decide) ?_
            refine G.istore (lv' := [(20, .int 1), (0, .ref b), (1, .ref (h 0)), (2, .ref (h 58)), (3, .ref (h 59)), (4, .ref (h 60)), (5, .ref (h 61)), (6, .ref (h 62)), (7, .ref (h 63)), (8, .ref (h 64)), (9, .ref (h 65)), (10, .ref (h 66)), (11, .ref (h 67)), (12, .ref (h 68)), (13, .ref (h 69)), (14, .int v4), (15, .int x15), (16, .int v1), (19, .int v5)]) E dL_law_1320 (by decide) rfl ?_
            refine G.aload_n E dL_law_1322 3 rfl rfl ?_
            refine G.aload_n E dL_law_1323 4 rfl rfl ?_
            refine G.aload E dL_law_1324 5 rfl ?_
            refine G.aload E dL_law_1326 6 rfl ?_
            refine G.callSl (mc := 2) (ms := 71) (rm := rm_L_rest) (n := 4) (As := [.ref (h 58), .ref (h 59), .ref (h 60), .ref (h 61)]) E dL_law_1328 (fun _ hv => Con.inN E.wf (c_L_rest (wfL_N E.wf) hv)) gL_law_L_rest rfl rfl rfl (by decide +kernel) ⟨Nat.le_of_ble_eq_true rfl, Nat.le_of_ble_eq_true rfl⟩ rfl (Nat.le_of_ble_eq_true rfl) ⟨by show _ ≤ 600104; omega, by show _ ≤ 7301314; omega⟩ (fun v10 => ?_)
            refine G.lstore (lv' := [(21, .long v10), (20, .int 1), (0, .ref b), (1, .ref (h 0)), (2, .ref (h 58)), (3, .ref (h 59)), (4, .ref (h 60)), (5, .ref (h 61)), (6, .ref (h 62)), (7, .ref (h 63)), (8, .ref (h 64)), (9, .ref (h 65)), (10, .ref (h 66)), (11, .ref (h 67)), (12, .ref (h 68)), (13, .ref (h 69)), (14, .int v4), (15, .int x15), (16, .int v1), (19, .int v5)]) E dL_law_1331 (by decide) rfl ?_
            refine G.iconst (v := 0) E dL_law_1333 (by decide) ?_
            refine G.istore (lv' := [(23, .int 0), (21, .long v10), (20, .int 1), (0, .ref b), (1, .ref (h 0)), (2, .ref (h 58)), (3, .ref (h 59)), (4, .ref (h 60)), (5, .ref (h 61)), (6, .ref (h 62)), (7, .ref (h 63)), (8, .ref (h 64)), (9, .ref (h 65)), (10, .ref (h 66)), (11, .ref (h 67)), (12, .ref (h 68)), (13, .ref (h 69)), (14, .int v4), (15, .int x15), (16, .int v1), (19, .int v5)]) E dL_law_1334 (by decide) rfl ?_
            refine G.widen (k1 := cb + 2200) (n1 := sb + 23998) (by omega) (by omega) ?_
            refine G.loc [3, 4, 5, 6, 7, 8, 9, 10, 11, 12, 13, 14, 15, 16, 17, 18, 19, 20, 2, 1, 0] rfl ?_
            refine gl_L_law_1336 (cX := (cb + 2872)) (sX := (sb + 47854)) E hfl X0 hge (by omega) (by omega) (fun v18 => ?_) 8 (cb + 2200) (sb + 23998) (by omega) (by omega) _ _
            refine G.iload E dL_law_1437 17 rfl ?_
            refine G.if_eq (tgt := 1468) E dL_law_1439 (by decide) ?_ ?_
            · refine G.iconst (v := 0) E dL_law_1468 (by decide) ?_
              exact G.no
            · refine G.aload_n E dL_law_1442 1 rfl rfl ?_
              refine G.callViW (mc := 0) (ms := 0) (rm := rm_X7_keeps) (n := 0) (T := TX7) (N := 7) (C := RX7) (a := h 0) (q0 := 0) (As := []) (fun x => (x, s9)) E dL_law_1443 (fun _ _ hv => Con.inC E.wf (c_X7_keeps (wfL_C E.wf) hv)) gL_law_X7_keeps rfl rfl rfl (by decide +kernel) ⟨Nat.le_of_ble_eq_true rfl, Nat.le_of_ble_eq_true rfl⟩ ((wsL_at0 _ _ _).trans (wsC_at0 _ _ _)) rfl rfl (Nat.le_of_ble_eq_true rfl) ⟨by show _ ≤ 600104; omega, by show _ ≤ 7301314; omega⟩ (fun v19 s20 => ?_)
              refine G.iload E dL_law_1446 18 rfl ?_
              refine G.icmp_ne (tgt := 1468) E dL_law_1448 (by decide) ?_ ?_
              · refine G.aload_n E dL_law_1451 1 rfl rfl ?_
                refine G.iload E dL_law_1452 16 rfl ?_
                refine G.aload E dL_law_1454 11 rfl ?_
                refine G.aload_n E dL_law_1456 2 rfl rfl ?_
                refine G.aload_n E dL_law_1457 3 rfl rfl ?_
                refine G.aload E dL_law_1458 4 rfl ?_
                refine G.aload E dL_law_1460 5 rfl ?_
                refine G.callSiW (mc := 886) (ms := 30568) (rm := rm_L_isTold) (n := 7) (As := [.ref (h 0), .int v1, .ref (h 67), .ref (h 58), .ref (h 59), .ref (h 60), .ref (h 61)]) (fun x => (x, s9)) E dL_law_1462 (fun _ _ hv => c_L_isTold E.wf hfl hv) gL_law_L_isTold rfl rfl rfl (by decide +kernel) ⟨Nat.le_of_ble_eq_true rfl, Nat.le_of_ble_eq_true rfl⟩ rfl (Nat.le_of_ble_eq_true rfl) ⟨by show _ ≤ 600104; omega, by show _ ≤ 7301314; omega⟩ (fun v21 s22 => ?_)
                refine G.if_ne (tgt := 1470) E dL_law_1465 (by decide) ?_ ?_
                · refine G.iconst (v := 0) E dL_law_1468 (by decide) ?_
                  exact G.no
                · refine G.iinc (v := x15 + 1) (lv' := [(15, .int (x15 + 1)), (0, .ref b), (1, .ref (h 0)), (2, .ref (h 58)), (3, .ref (h 59)), (4, .ref (h 60)), (5, .ref (h 61)), (6, .ref (h 62)), (7, .ref (h 63)), (8, .ref (h 64)), (9, .ref (h 65)), (10, .ref (h 66)), (11, .ref (h 67)), (12, .ref (h 68)), (13, .ref (h 69)), (14, .int v4), (16, .int v1), (19, .int v5), (20, .int v18)]) E dL_law_1470 15 rfl rfl (by decide) rfl ?_
                  refine G.goto (tgt := 84) E dL_law_1473 (by decide) ?_
                  refine G.widen (k1 := cb + 3758) (n1 := sb + 78422) (by omega) (by omega) ?_
                  refine G.loc [1, 2, 3, 4, 5, 6, 7, 8, 9, 10, 11, 12, 13, 14, 15, 0] rfl ?_
                  exact ih (cb + 3758) (sb + 78422) (by omega) (by omega) v4 (x15 + 1) s22 s9
              · refine G.iconst (v := 0) E dL_law_1468 (by decide) ?_
                exact G.no
          · refine G.if_ne (tgt := 1319) E dL_law_1290 (by decide) ?_ ?_
            · refine G.aload_n E dL_law_1293 2 rfl rfl ?_
              refine G.aload E dL_law_1294 6 rfl ?_
              refine G.callSvW (mc := 0) (ms := 0) (rm := rm_L_copies) (n := 2) (As := [.ref (h 58), .ref (h 62)]) (fun x => (s6, x)) E dL_law_1296 (fun _ hv => Con.inN E.wf (c_L_copies_0_4 (wfL_N E.wf) hv)) gL_law_L_copies rfl rfl rfl (by decide +kernel) ⟨Nat.le_of_ble_eq_true rfl, Nat.le_of_ble_eq_true rfl⟩ rfl (Nat.le_of_ble_eq_true rfl) ⟨by show _ ≤ 600104; omega, by show _ ≤ 7301314; omega⟩ (fun s23 => ?_)
              refine G.aload_n E dL_law_1299 3 rfl rfl ?_
              refine G.aload E dL_law_1300 7 rfl ?_
              refine G.callSvW (mc := 0) (ms := 0) (rm := rm_L_copies) (n := 2) (As := [.ref (h 59), .ref (h 63)]) (fun x => (s6, x)) E dL_law_1302 (fun _ hv => Con.inN E.wf (c_L_copies_1_5 (wfL_N E.wf) hv)) gL_law_L_copies rfl rfl rfl (by decide +kernel) ⟨Nat.le_of_ble_eq_true rfl, Nat.le_of_ble_eq_true rfl⟩ rfl (Nat.le_of_ble_eq_true rfl) ⟨by show _ ≤ 600104; omega, by show _ ≤ 7301314; omega⟩ (fun s24 => ?_)
              refine G.aload E dL_law_1305 4 rfl ?_
              refine G.aload E dL_law_1307 8 rfl ?_
              refine G.callSvW (mc := 0) (ms := 0) (rm := rm_L_copies) (n := 2) (As := [.ref (h 60), .ref (h 64)]) (fun x => (s6, x)) E dL_law_1309 (fun _ hv => Con.inN E.wf (c_L_copies_2_6 (wfL_N E.wf) hv)) gL_law_L_copies rfl rfl rfl (by decide +kernel) ⟨Nat.le_of_ble_eq_true rfl, Nat.le_of_ble_eq_true rfl⟩ rfl (Nat.le_of_ble_eq_true rfl) ⟨by show _ ≤ 600104; omega, by show _ ≤ 7301314; omega⟩ (fun s25 => ?_)
              refine G.aload E dL_law_1312 5 rfl ?_
              refine G.aload E dL_law_1314 9 rfl ?_
              refine G.callSvW (mc := 0) (ms := 0) (rm := rm_L_copies) (n := 2) (As := [.ref (h 61), .ref (h 65)]) (fun x => (s6, x)) E dL_law_1316 (fun _ hv => Con.inN E.wf (c_L_copies_3_7 (wfL_N E.wf) hv)) gL_law_L_copies rfl rfl rfl (by decide +kernel) ⟨Nat.le_of_ble_eq_true rfl, Nat.le_of_ble_eq_true rfl⟩ rfl (Nat.le_of_ble_eq_true rfl) ⟨by show _ ≤ 600104; omega, by show _ ≤ 7301314; omega⟩ (fun s26 => ?_)
              refine G.widen (k1 := cb + 2198) (n1 := sb + 23927) (by omega) (by omega) ?_
              refine G.loc [0, 1, 2, 3, 4, 5, 6, 7, 8, 9, 10, 11, 12, 13, 14, 15, 16, 17] rfl ?_
              exact hj1319 s26
            · refine G.widen (k1 := cb + 2198) (n1 := sb + 23927) (by omega) (by omega) ?_
              refine G.loc [0, 1, 2, 3, 4, 5, 6, 7, 8, 9, 10, 11, 12, 13, 14, 15, 16, 17] rfl ?_
              exact hj1319 s7
        · refine G.swIn (c0 := 0) (tgt := 196) E dL_law_147 (by decide) (by decide) rfl (by decide) ?_ (fun n0 => ?_)
          · refine G.aload_n E dL_law_196 2 rfl rfl ?_
            refine G.iconst (v := 0) E dL_law_197 (by decide) ?_
            refine G.ialdW (q0 := 58) (p0 := 0) (n := 6) ν0 E dL_law_198 (wsL_at58 _ _ _) (fun v27 => ?_)
            refine G.bipush (v := 7) E dL_law_199 (by decide) ?_
            refine G.icmp_eq (tgt := 1287) E dL_law_201 (by decide) ?_ ?_
            · refine G.widen (k1 := cb + 2198) (n1 := sb + 23927) (by omega) (by omega) ?_
              refine G.loc [0, 1, 2, 3, 4, 5, 6, 7, 8, 9, 10, 11, 12, 13, 14, 15, 16, 18] rfl ?_
              exact hj1287 x14 1 γ0 ν0
            · refine G.aload_n E dL_law_204 2 rfl rfl ?_
              refine G.iconst (v := 0) E dL_law_205 (by decide) ?_
              refine G.ialdW (q0 := 58) (p0 := 0) (n := 6) ν0 E dL_law_206 (wsL_at58 _ _ _) (fun v28 => ?_)
              refine G.bipush (v := 6) E dL_law_207 (by decide) ?_
              refine G.jn (P := fun j => ∀ (_u : Unit), G p l e room_1 s m #[Value.ref b] below meth c 40 cb sb D (wsL cy h) (adL h) (fun _ : Unit => lw_Z below #[Value.ref b] s) 222 [(0, .ref b), (1, .ref (h 0)), (2, .ref (h 58)), (3, .ref (h 59)), (4, .ref (h 60)), (5, .ref (h 61)), (6, .ref (h 62)), (7, .ref (h 63)), (8, .ref (h 64)), (9, .ref (h 65)), (10, .ref (h 66)), (11, .ref (h 67)), (12, .ref (h 68)), (13, .ref (h 69)), (14, .int x14), (15, .int x15), (16, .int v1), (17, .int v2)] [] (γ0, ν0) (j _u)) ?_ (fun j222 hj222 => ?_)
              · intro _u
                refine G.iload E dL_law_222 15 rfl ?_
                refine G.jn (P := fun j => ∀ (v29 : Int32), G p l e room_1 s m #[Value.ref b] below meth c 40 cb sb D (wsL cy h) (adL h) (fun _ : Unit => lw_Z below #[Value.ref b] s) 252 [(0, .ref b), (1, .ref (h 0)), (2, .ref (h 58)), (3, .ref (h 59)), (4, .ref (h 60)), (5, .ref (h 61)), (6, .ref (h 62)), (7, .ref (h 63)), (8, .ref (h 64)), (9, .ref (h 65)), (10, .ref (h 66)), (11, .ref (h 67)), (12, .ref (h 68)), (13, .ref (h 69)), (14, .int x14), (15, .int x15), (16, .int v1)] [.int v29] (γ0, ν0) (j v29)) ?_ (fun j252 hj252 => ?_)
                · intro v29
                  refine G.istore (lv' := [(20, .int v29), (0, .ref b), (1, .ref (h 0)), (2, .ref (h 58)), (3, .ref (h 59)), (4, .ref (h 60)), (5, .ref (h 61)), (6, .ref (h 62)), (7, .ref (h 63)), (8, .ref (h 64)), (9, .ref (h 65)), (10, .ref (h 66)), (11, .ref (h 67)), (12, .ref (h 68)), (13, .ref (h 69)), (14, .int x14), (15, .int x15), (16, .int v1)]) E dL_law_252 (by decide) rfl ?_
                  refine G.aload_n E dL_law_254 2 rfl rfl ?_
                  refine G.iload E dL_law_255 0 rfl ?_
                  refine G.callWiW (mc := 1) (ms := 6) (rm := rm_L_node) (n := 2) (As := [.ref (h 0), .int v29]) (fun x => (x, ν0)) E dL_law_257 (fun _ _ hv => c_L_node E.wf hfl hv) gL_law_L_node rfl rfl rfl (by decide +kernel) ⟨Nat.le_of_ble_eq_true rfl, Nat.le_of_ble_eq_true rfl⟩ rfl (Nat.le_of_ble_eq_true rfl) ⟨by show _ ≤ 600104; omega, by show _ ≤ 7301314; omega⟩ (fun v30 s31 => ?_)
                  refine G.aload_n E dL_law_260 3 rfl rfl ?_
                  refine G.iconst (v := 0) E dL_law_261 (by decide) ?_
                  refine G.ialdW (q0 := 58) (p0 := 0) (n := 6) ν0 E dL_law_262 (wsL_at58 _ _ _) (fun v32 => ?_)
                  refine G.jn (P := fun j => ∀ (v33 : Int32), G p l e room_1 s m #[Value.ref b] below meth c 40 (cb + 1) (sb + 6) D (wsL cy h) (adL h) (fun _ : Unit => lw_Z below #[Value.ref b] s) 271 [(0, .ref b), (1, .ref (h 0)), (2, .ref (h 58)), (3, .ref (h 59)), (4, .ref (h 60)), (5, .ref (h 61)), (6, .ref (h 62)), (7, .ref (h 63)), (8, .ref (h 64)), (9, .ref (h 65)), (10, .ref (h 66)), (11, .ref (h 67)), (12, .ref (h 68)), (13, .ref (h 69)), (14, .int x14), (15, .int x15), (16, .int v1), (20, .int v29)] [.int v33] (s31, ν0) (j v33)) ?_ (fun j271 hj271 => ?_)
                  · intro v33
                    refine G.istore (lv' := [(19, .int v33), (0, .ref b), (1, .ref (h 0)), (2, .ref (h 58)), (3, .ref (h 59)), (4, .ref (h 60)), (5, .ref (h 61)), (6, .ref (h 62)), (7, .ref (h 63)), (8, .ref (h 64)), (9, .ref (h 65)), (10, .ref (h 66)), (11, .ref (h 67)), (12, .ref (h 68)), (13, .ref (h 69)), (14, .int x14), (15, .int x15), (16, .int v1), (20, .int v29)]) E dL_law_271 (by decide) rfl ?_
                    refine G.aload_n E dL_law_273 3 rfl rfl ?_
                    refine G.iconst (v := 1) E dL_law_274 (by decide) ?_
                    refine G.dup2 E dL_law_275 rfl rfl ?_
                    refine G.ialdW (q0 := 58) (p0 := 0) (n := 6) ν0 E dL_law_276 (wsL_at58 _ _ _) (fun v34 => ?_)
                    refine G.iconst (v := 1) E dL_law_277 (by decide) ?_
                    refine G.aload_n E dL_law_278 3 rfl rfl ?_
                    refine G.iconst (v := 0) E dL_law_279 (by decide) ?_
                    refine G.ialdW (q0 := 58) (p0 := 0) (n := 6) ν0 E dL_law_280 (wsL_at58 _ _ _) (fun v35 => ?_)
                    refine G.ishl E dL_law_281 ?_
                    refine G.ior E dL_law_282 ?_
                    refine G.iastW (q0 := 58) (p0 := 0) (n := 6) ν0 (fun x => (s31, x)) E dL_law_283 (wsL_at58 _ _ _) (fun j => (wsL_set58 _ _ _ _ _ j)) (fun s36 => ?_)
                    refine G.aload_n E dL_law_284 3 rfl rfl ?_
                    refine G.iconst (v := 2) E dL_law_285 (by decide) ?_
                    refine G.iload E dL_law_286 18 rfl ?_
                    refine G.jn (P := fun j => ∀ (v37 : Int32), G p l e room_1 s m #[Value.ref b] below meth c 40 (cb + 1) (sb + 6) D (wsL cy h) (adL h) (fun _ : Unit => lw_Z below #[Value.ref b] s) 314 [(0, .ref b), (1, .ref (h 0)), (2, .ref (h 58)), (3, .ref (h 59)), (4, .ref (h 60)), (5, .ref (h 61)), (6, .ref (h 62)), (7, .ref (h 63)), (8, .ref (h 64)), (9, .ref (h 65)), (10, .ref (h 66)), (11, .ref (h 67)), (12, .ref (h 68)), (13, .ref (h 69)), (14, .int x14), (15, .int x15), (16, .int v1), (19, .int v33)] [.int v37, .int 2, .ref (h 58)] (s31, s36) (j v37)) ?_ (fun j314 hj314 => ?_)
                    · intro v37
                      refine G.iastW (q0 := 58) (p0 := 0) (n := 6) s36 (fun x => (s31, x)) E dL_law_314 (wsL_at58 _ _ _) (fun j => (wsL_set58 _ _ _ _ _ j)) (fun s38 => ?_)
                      refine G.aload E dL_law_315 11 rfl ?_
                      refine G.aload_n E dL_law_317 2 rfl rfl ?_
                      refine G.iconst (v := 0) E dL_law_318 (by decide) ?_
                      refine G.ialdW (q0 := 58) (p0 := 0) (n := 6) s38 E dL_law_319 (wsL_at58 _ _ _) (fun v39 => ?_)
                      refine G.iconst (v := 0) E dL_law_320 (by decide) ?_
                      refine G.iastW (q0 := 67) (p0 := 9) (n := 7) s38 (fun x => (s31, x)) E dL_law_321 (wsL_at67 _ _ _) (fun j => (wsL_set67 _ _ _ _ _ j)) (fun s40 => ?_)
                      refine G.aload_n E dL_law_322 2 rfl rfl ?_
                      refine G.iconst (v := 0) E dL_law_323 (by decide) ?_
                      refine G.dup2 E dL_law_324 rfl rfl ?_
                      refine G.ialdW (q0 := 58) (p0 := 0) (n := 6) s40 E dL_law_325 (wsL_at58 _ _ _) (fun v41 => ?_)
                      refine G.iconst (v := 1) E dL_law_326 (by decide) ?_
                      refine G.iadd E dL_law_327 ?_
                      refine G.iastW (q0 := 58) (p0 := 0) (n := 6) s40 (fun x => (s31, x)) E dL_law_328 (wsL_at58 _ _ _) (fun j => (wsL_set58 _ _ _ _ _ j)) (fun s42 => ?_)
                      refine G.aload_n E dL_law_329 2 rfl rfl ?_
                      refine G.iconst (v := 5) E dL_law_330 (by decide) ?_
                      refine G.iconst (v := 0) E dL_law_331 (by decide) ?_
                      refine G.iastW (q0 := 58) (p0 := 0) (n := 6) s42 (fun x => (s31, x)) E dL_law_332 (wsL_at58 _ _ _) (fun j => (wsL_set58 _ _ _ _ _ j)) (fun s43 => ?_)
                      refine G.goto (tgt := 1287) E dL_law_333 (by decide) ?_
                      refine G.widen (k1 := cb + 2198) (n1 := sb + 23927) (by omega) (by omega) ?_
                      refine G.loc [0, 1, 2, 3, 4, 5, 6, 7, 8, 9, 10, 11, 12, 13, 14, 15, 16, 17] rfl ?_
                      exact hj1287 x14 v33 s31 s43
                    · refine G.if_eq (tgt := 303) E dL_law_288 (by decide) ?_ ?_
                      · refine G.aload_n E dL_law_303 3 rfl rfl ?_
                        refine G.iconst (v := 2) E dL_law_304 (by decide) ?_
                        refine G.ialdW (q0 := 58) (p0 := 0) (n := 6) s36 E dL_law_305 (wsL_at58 _ _ _) (fun v44 => ?_)
                        refine G.iconst (v := 1) E dL_law_306 (by decide) ?_
                        refine G.aload_n E dL_law_307 3 rfl rfl ?_
                        refine G.iconst (v := 0) E dL_law_308 (by decide) ?_
                        refine G.ialdW (q0 := 58) (p0 := 0) (n := 6) s36 E dL_law_309 (wsL_at58 _ _ _) (fun v45 => ?_)
                        refine G.ishl E dL_law_310 ?_
                        refine G.iconst (v := (-1)) E dL_law_311 (by decide) ?_
                        refine G.ixor E dL_law_312 ?_
                        refine G.iand E dL_law_313 ?_
                        refine G.widen (k1 := cb + 1) (n1 := sb + 6) (by omega) (by omega) ?_
                        refine G.loc [1, 2, 3, 4, 5, 6, 7, 8, 9, 10, 11, 12, 13, 14, 15, 16, 17, 0] rfl ?_
                        exact hj314 (v44 &&& ((1 <<< (v45 &&& 31)) ^^^ (-1)))
                      · refine G.aload_n E dL_law_291 3 rfl rfl ?_
                        refine G.iconst (v := 2) E dL_law_292 (by decide) ?_
                        refine G.ialdW (q0 := 58) (p0 := 0) (n := 6) s36 E dL_law_293 (wsL_at58 _ _ _) (fun v46 => ?_)
                        refine G.iconst (v := 1) E dL_law_294 (by decide) ?_
                        refine G.aload_n E dL_law_295 3 rfl rfl ?_
                        refine G.iconst (v := 0) E dL_law_296 (by decide) ?_
                        refine G.ialdW (q0 := 58) (p0 := 0) (n := 6) s36 E dL_law_297 (wsL_at58 _ _ _) (fun v47 => ?_)
                        refine G.ishl E dL_law_298 ?_
                        refine G.ior E dL_law_299 ?_
                        refine G.goto (tgt := 314) E dL_law_300 (by decide) ?_
                        refine G.widen (k1 := cb + 1) (n1 := sb + 6) (by omega) (by omega) ?_
                        refine G.loc [1, 2, 3, 4, 5, 6, 7, 8, 9, 10, 11, 12, 13, 14, 15, 16, 17, 0] rfl ?_
                        exact hj314 (v46 ||| (1 <<< (v47 &&& 31)))
                  · refine G.icmp_ne (tgt := 270) E dL_law_263 (by decide) ?_ ?_
                    · refine G.iconst (v := 1) E dL_law_266 (by decide) ?_
                      refine G.goto (tgt := 271) E dL_law_267 (by decide) ?_
                      refine G.widen (k1 := cb + 1) (n1 := sb + 6) (by omega) (by omega) ?_
                      refine G.loc [1, 2, 3, 4, 5, 6, 7, 8, 9, 10, 11, 12, 13, 14, 15, 16, 17, 0] rfl ?_
                      exact hj271 1
                    · refine G.iconst (v := 0) E dL_law_270 (by decide) ?_
                      refine G.widen (k1 := cb + 1) (n1 := sb + 6) (by omega) (by omega) ?_
                      refine G.loc [1, 2, 3, 4, 5, 6, 7, 8, 9, 10, 11, 12, 13, 14, 15, 16, 17, 0] rfl ?_
                      exact hj271 0
                · refine G.jn (P := fun j => ∀ (_u : Unit), G p l e room_1 s m #[Value.ref b] below meth c 40 cb sb D (wsL cy h) (adL h) (fun _ : Unit => lw_Z below #[Value.ref b] s) 247 [(0, .ref b), (1, .ref (h 0)), (2, .ref (h 58)), (3, .ref (h 59)), (4, .ref (h 60)), (5, .ref (h 61)), (6, .ref (h 62)), (7, .ref (h 63)), (8, .ref (h 64)), (9, .ref (h 65)), (10, .ref (h 66)), (11, .ref (h 67)), (12, .ref (h 68)), (13, .ref (h 69)), (14, .int x14), (15, .int x15), (16, .int v1)] [] (γ0, ν0) (j _u)) ?_ (fun j247 hj247 => ?_)
                  · intro _u
                    refine G.iconst (v := 1) E dL_law_247 (by decide) ?_
                    refine G.goto (tgt := 252) E dL_law_248 (by decide) ?_
                    refine G.widen (k1 := cb) (n1 := sb) (by omega) (by omega) ?_
                    refine G.loc [0, 1, 2, 3, 4, 5, 6, 7, 8, 9, 10, 11, 12, 13, 14, 15, 16] rfl ?_
                    exact hj252 1
                  · refine G.if_eq (tgt := 247) E dL_law_224 (by decide) ?_ ?_
                    · refine G.widen (k1 := cb) (n1 := sb) (by omega) (by omega) ?_
                      refine G.loc [0, 1, 2, 3, 4, 5, 6, 7, 8, 9, 10, 11, 12, 13, 14, 15, 16] rfl ?_
                      exact hj247 ()
                    · refine G.iload E dL_law_227 15 rfl ?_
                      refine G.iconst (v := 3) E dL_law_229 (by decide) ?_
                      refine G.icmp_eq (tgt := 247) E dL_law_230 (by decide) ?_ ?_
                      · refine G.widen (k1 := cb) (n1 := sb) (by omega) (by omega) ?_
                        refine G.loc [0, 1, 2, 3, 4, 5, 6, 7, 8, 9, 10, 11, 12, 13, 14, 15, 16] rfl ?_
                        exact hj247 ()
                      · refine G.iload E dL_law_233 15 rfl ?_
                        refine G.iconst (v := 3) E dL_law_235 (by decide) ?_
                        refine G.jn (P := fun j => ∀ (_u : Unit), G p l e room_1 s m #[Value.ref b] below meth c 40 cb sb D (wsL cy h) (adL h) (fun _ : Unit => lw_Z below #[Value.ref b] s) 251 [(0, .ref b), (1, .ref (h 0)), (2, .ref (h 58)), (3, .ref (h 59)), (4, .ref (h 60)), (5, .ref (h 61)), (6, .ref (h 62)), (7, .ref (h 63)), (8, .ref (h 64)), (9, .ref (h 65)), (10, .ref (h 66)), (11, .ref (h 67)), (12, .ref (h 68)), (13, .ref (h 69)), (14, .int x14), (15, .int x15), (16, .int v1)] [] (γ0, ν0) (j _u)) ?_ (fun j251 hj251 => ?_)
                        · intro _u
                          refine G.iconst (v := 0) E dL_law_251 (by decide) ?_
                          refine G.widen (k1 := cb) (n1 := sb) (by omega) (by omega) ?_
                          refine G.loc [0, 1, 2, 3, 4, 5, 6, 7, 8, 9, 10, 11, 12, 13, 14, 15, 16] rfl ?_
                          exact hj252 0
                        · refine G.icmp_le (tgt := 251) E dL_law_236 (by decide) ?_ ?_
                          · refine G.widen (k1 := cb) (n1 := sb) (by omega) (by omega) ?_
                            refine G.loc [0, 1, 2, 3, 4, 5, 6, 7, 8, 9, 10, 11, 12, 13, 14, 15, 16] rfl ?_
                            exact hj251 ()
                          · refine G.iload E dL_law_239 17 rfl ?_
                            refine G.iconst (v := 2) E dL_law_241 (by decide) ?_
                            refine G.iand E dL_law_242 ?_
                            refine G.iconst (v := 2) E dL_law_243 (by decide) ?_
                            refine G.icmp_ne (tgt := 251) E dL_law_244 (by decide) ?_ ?_
                            · refine G.widen (k1 := cb) (n1 := sb) (by omega) (by omega) ?_
                              refine G.loc [0, 1, 2, 3, 4, 5, 6, 7, 8, 9, 10, 11, 12, 13, 14, 15, 16] rfl ?_
                              exact hj247 ()
                            · refine G.widen (k1 := cb) (n1 := sb) (by omega) (by omega) ?_
                              refine G.loc [0, 1, 2, 3, 4, 5, 6, 7, 8, 9, 10, 11, 12, 13, 14, 15, 16] rfl ?_
                              exact hj251 ()
              · refine G.icmp_ne (tgt := 222) E dL_law_209 (by decide) ?_ ?_
                · refine G.iload E dL_law_212 15 rfl ?_
                  refine G.bipush (v := 40) E dL_law_214 (by decide) ?_
                  refine G.icmp_ge (tgt := 222) E dL_law_216 (by decide) ?_ ?_
                  · refine G.widen (k1 := cb) (n1 := sb) (by omega) (by omega) ?_
                    refine G.loc [0, 1, 2, 3, 4, 5, 6, 7, 8, 9, 10, 11, 12, 13, 14, 15, 16, 17] rfl ?_
                    exact hj222 ()
                  · refine G.goto (tgt := 1287) E dL_law_219 (by decide) ?_
                    refine G.widen (k1 := cb + 2198) (n1 := sb + 23927) (by omega) (by omega) ?_
                    refine G.loc [0, 1, 2, 3, 4, 5, 6, 7, 8, 9, 10, 11, 12, 13, 14, 15, 16, 18] rfl ?_
                    exact hj1287 x14 1 γ0 ν0
                · refine G.widen (k1 := cb) (n1 := sb) (by omega) (by omega) ?_
                  refine G.loc [0, 1, 2, 3, 4, 5, 6, 7, 8, 9, 10, 11, 12, 13, 14, 15, 16, 17] rfl ?_
                  exact hj222 ()
          refine G.swIn (c0 := 1) (tgt := 336) E dL_law_147 (by decide) (by decide) rfl (by decide) ?_ (fun n1 => ?_)
          · refine G.iload E dL_law_336 17 rfl ?_
            refine G.bipush (v := 7) E dL_law_338 (by decide) ?_
            refine G.callSi (mc := 0) (ms := 0) (rm := rm_L_low) (n := 2) (As := [.int v2, .int 7]) E dL_law_340 (fun _ hv => Con.inN E.wf (c_L_low (wfL_N E.wf) hv)) gL_law_L_low rfl rfl rfl (by decide +kernel) ⟨Nat.le_of_ble_eq_true rfl, Nat.le_of_ble_eq_true rfl⟩ rfl (Nat.le_of_ble_eq_true rfl) ⟨by show _ ≤ 600104; omega, by show _ ≤ 7301314; omega⟩ (fun v48 => ?_)
            refine G.istore (lv' := [(21, .int v48), (0, .ref b), (1, .ref (h 0)), (2, .ref (h 58)), (3, .ref (h 59)), (4, .ref (h 60)), (5, .ref (h 61)), (6, .ref (h 62)), (7, .ref (h 63)), (8, .ref (h 64)), (9, .ref (h 65)), (10, .ref (h 66)), (11, .ref (h 67)), (12, .ref (h 68)), (13, .ref (h 69)), (14, .int x14), (15, .int x15), (16, .int v1), (17, .int v2), (19, .int 1)]) E dL_law_343 (by decide) rfl ?_
            refine G.iload E dL_law_345 18 rfl ?_
            refine G.iconst (v := 5) E dL_law_347 (by decide) ?_
            refine G.ishr E dL_law_348 ?_
            refine G.bipush (v := 7) E dL_law_349 (by decide) ?_
            refine G.callSi (mc := 0) (ms := 0) (rm := rm_L_low) (n := 2) (As := [.int (v2 >>> (5 &&& 31)), .int 7]) E dL_law_351 (fun _ hv => Con.inN E.wf (c_L_low (wfL_N E.wf) hv)) gL_law_L_low rfl rfl rfl (by decide +kernel) ⟨Nat.le_of_ble_eq_true rfl, Nat.le_of_ble_eq_true rfl⟩ rfl (Nat.le_of_ble_eq_true rfl) ⟨by show _ ≤ 600104; omega, by show _ ≤ 7301314; omega⟩ (fun v49 => ?_)
            refine G.istore (lv' := [(22, .int v49), (21, .int v48), (0, .ref b), (1, .ref (h 0)), (2, .ref (h 58)), (3, .ref (h 59)), (4, .ref (h 60)), (5, .ref (h 61)), (6, .ref (h 62)), (7, .ref (h 63)), (8, .ref (h 64)), (9, .ref (h 65)), (10, .ref (h 66)), (11, .ref (h 67)), (12, .ref (h 68)), (13, .ref (h 69)), (14, .int x14), (15, .int x15), (16, .int v1), (17, .int v2), (19, .int 1)]) E dL_law_354 (by decide) rfl ?_
            refine G.iload E dL_law_356 19 rfl ?_
            refine G.bipush (v := 8) E dL_law_358 (by decide) ?_
            refine G.iand E dL_law_360 ?_
            refine G.jn (P := fun j => ∀ (v50 : Int32), G p l e room_1 s m #[Value.ref b] below meth c 40 cb sb D (wsL cy h) (adL h) (fun _ : Unit => lw_Z below #[Value.ref b] s) 393 [(0, .ref b), (1, .ref (h 0)), (2, .ref (h 58)), (3, .ref (h 59)), (4, .ref (h 60)), (5, .ref (h 61)), (6, .ref (h 62)), (7, .ref (h 63)), (8, .ref (h 64)), (9, .ref (h 65)), (10, .ref (h 66)), (11, .ref (h 67)), (12, .ref (h 68)), (13, .ref (h 69)), (14, .int x14), (15, .int x15), (16, .int v1), (21, .int v48), (22, .int v49)] [.int v50] (γ0, ν0) (j v50)) ?_ (fun j393 hj393 => ?_)
            · intro v50
              refine G.istore (lv' := [(23, .int v50), (0, .ref b), (1, .ref (h 0)), (2, .ref (h 58)), (3, .ref (h 59)), (4, .ref (h 60)), (5, .ref (h 61)), (6, .ref (h 62)), (7, .ref (h 63)), (8, .ref (h 64)), (9, .ref (h 65)), (10, .ref (h 66)), (11, .ref (h 67)), (12, .ref (h 68)), (13, .ref (h 69)), (14, .int x14), (15, .int x15), (16, .int v1), (21, .int v48), (22, .int v49)]) E dL_law_393 (by decide) rfl ?_
              refine G.aload_n E dL_law_395 3 rfl rfl ?_
              refine G.iconst (v := 1) E dL_law_396 (by decide) ?_
              refine G.ialdW (q0 := 58) (p0 := 0) (n := 6) ν0 E dL_law_397 (wsL_at58 _ _ _) (fun v51 => ?_)
              refine G.iload E dL_law_398 18 rfl ?_
              refine G.ishr E dL_law_400 ?_
              refine G.iconst (v := 1) E dL_law_401 (by decide) ?_
              refine G.iand E dL_law_402 ?_
              refine G.iconst (v := 1) E dL_law_403 (by decide) ?_
              refine G.jn (P := fun j => ∀ (v52 : Int32), G p l e room_1 s m #[Value.ref b] below meth c 40 cb sb D (wsL cy h) (adL h) (fun _ : Unit => lw_Z below #[Value.ref b] s) 424 [(0, .ref b), (1, .ref (h 0)), (2, .ref (h 58)), (3, .ref (h 59)), (4, .ref (h 60)), (5, .ref (h 61)), (6, .ref (h 62)), (7, .ref (h 63)), (8, .ref (h 64)), (9, .ref (h 65)), (10, .ref (h 66)), (11, .ref (h 67)), (12, .ref (h 68)), (13, .ref (h 69)), (14, .int x14), (15, .int x15), (16, .int v1), (21, .int v48), (22, .int v49), (23, .int v50)] [.int v52] (γ0, ν0) (j v52)) ?_ (fun j424 hj424 => ?_)
              · intro v52
                refine G.istore (lv' := [(24, .int v52), (0, .ref b), (1, .ref (h 0)), (2, .ref (h 58)), (3, .ref (h 59)), (4, .ref (h 60)), (5, .ref (h 61)), (6, .ref (h 62)), (7, .ref (h 63)), (8, .ref (h 64)), (9, .ref (h 65)), (10, .ref (h 66)), (11, .ref (h 67)), (12, .ref (h 68)), (13, .ref (h 69)), (14, .int x14), (15, .int x15), (16, .int v1), (21, .int v48), (22, .int v49), (23, .int v50)]) E dL_law_424 (by decide) rfl ?_
                refine G.iconst (v := 0) E dL_law_426 (by decide) ?_
                refine G.istore (lv' := [(25, .int 0), (24, .int v52), (0, .ref b), (1, .ref (h 0)), (2, .ref (h 58)), (3, .ref (h 59)), (4, .ref (h 60)), (5, .ref (h 61)), (6, .ref (h 62)), (7, .ref (h 63)), (8, .ref (h 64)), (9, .ref (h 65)), (10, .ref (h 66)), (11, .ref (h 67)), (12, .ref (h 68)), (13, .ref (h 69)), (14, .int x14), (15, .int x15), (16, .int v1), (21, .int v48), (22, .int v49), (23, .int v50)]) E dL_law_427 (by decide) rfl ?_
                refine G.iconst (v := 0) E dL_law_429 (by decide) ?_
                refine G.istore (lv' := [(26, .int 0), (25, .int 0), (24, .int v52), (0, .ref b), (1, .ref (h 0)), (2, .ref (h 58)), (3, .ref (h 59)), (4, .ref (h 60)), (5, .ref (h 61)), (6, .ref (h 62)), (7, .ref (h 63)), (8, .ref (h 64)), (9, .ref (h 65)), (10, .ref (h 66)), (11, .ref (h 67)), (12, .ref (h 68)), (13, .ref (h 69)), (14, .int x14), (15, .int x15), (16, .int v1), (21, .int v48), (22, .int v49), (23, .int v50)]) E dL_law_430 (by decide) rfl ?_
                refine G.widen (k1 := cb) (n1 := sb) (by omega) (by omega) ?_
                refine G.loc [3, 4, 5, 6, 7, 8, 9, 10, 11, 12, 13, 14, 15, 16, 17, 18, 19, 20, 21, 22, 2, 1, 0] rfl ?_
                refine gl_L_law_432 (cb := cb) (sb := sb) E hfl X0 hge (by omega) (by omega) (fun v55 => ?_) N _ _
                refine G.iload E dL_law_458 20 rfl ?_
                refine G.jn (P := fun j => ∀ (v56 : Int32), G p l e room_1 s m #[Value.ref b] below meth c 40 cb sb D (wsL cy h) (adL h) (fun _ : Unit => lw_Z below #[Value.ref b] s) 483 [(0, .ref b), (1, .ref (h 0)), (2, .ref (h 58)), (3, .ref (h 59)), (4, .ref (h 60)), (5, .ref (h 61)), (6, .ref (h 62)), (7, .ref (h 63)), (8, .ref (h 64)), (9, .ref (h 65)), (10, .ref (h 66)), (11, .ref (h 67)), (12, .ref (h 68)), (13, .ref (h 69)), (14, .int x14), (15, .int x15), (16, .int v1), (21, .int v48), (22, .int v49), (23, .int v50), (24, .int v52)] [.int v56] (γ0, ν0) (j v56)) ?_ (fun j483 hj483 => ?_)
                · intro v56
                  refine G.istore (lv' := [(26, .int v56), (0, .ref b), (1, .ref (h 0)), (2, .ref (h 58)), (3, .ref (h 59)), (4, .ref (h 60)), (5, .ref (h 61)), (6, .ref (h 62)), (7, .ref (h 63)), (8, .ref (h 64)), (9, .ref (h 65)), (10, .ref (h 66)), (11, .ref (h 67)), (12, .ref (h 68)), (13, .ref (h 69)), (14, .int x14), (15, .int x15), (16, .int v1), (21, .int v48), (22, .int v49), (23, .int v50), (24, .int v52)]) E dL_law_483 (by decide) rfl ?_
                  refine G.aload_n E dL_law_485 2 rfl rfl ?_
                  refine G.iload E dL_law_486 18 rfl ?_
                  refine G.iload E dL_law_488 19 rfl ?_
                  refine G.iload E dL_law_490 20 rfl ?_
                  refine G.callWiW (mc := 3) (ms := 18) (rm := rm_L_wire) (n := 4) (As := [.ref (h 0), .int v48, .int v49, .int v50]) (fun x => (x, ν0)) E dL_law_492 (fun _ _ hv => c_L_wire E.wf hfl hv) gL_law_L_wire rfl rfl rfl (by decide +kernel) ⟨Nat.le_of_ble_eq_true rfl, Nat.le_of_ble_eq_true rfl⟩ rfl (Nat.le_of_ble_eq_true rfl) ⟨by show _ ≤ 600104; omega, by show _ ≤ 7301314; omega⟩ (fun v57 s58 => ?_)
                  refine G.iload E dL_law_495 21 rfl ?_
                  refine G.jn (P := fun j => ∀ (v59 : Int32), G p l e room_1 s m #[Value.ref b] below meth c 40 (cb + 3) (sb + 18) D (wsL cy h) (adL h) (fun _ : Unit => lw_Z below #[Value.ref b] s) 520 [(0, .ref b), (1, .ref (h 0)), (2, .ref (h 58)), (3, .ref (h 59)), (4, .ref (h 60)), (5, .ref (h 61)), (6, .ref (h 62)), (7, .ref (h 63)), (8, .ref (h 64)), (9, .ref (h 65)), (10, .ref (h 66)), (11, .ref (h 67)), (12, .ref (h 68)), (13, .ref (h 69)), (14, .int x14), (15, .int x15), (16, .int v1), (21, .int v48), (22, .int v49), (23, .int v50), (26, .int v56)] [.int v59, .int v57] (s58, ν0) (j v59)) ?_ (fun j520 hj520 => ?_)
                  · intro v59
                    refine G.jn (P := fun j => ∀ (v60 : Int32), G p l e room_1 s m #[Value.ref b] below meth c 40 (cb + 3) (sb + 18) D (wsL cy h) (adL h) (fun _ : Unit => lw_Z below #[Value.ref b] s) 528 [(0, .ref b), (1, .ref (h 0)), (2, .ref (h 58)), (3, .ref (h 59)), (4, .ref (h 60)), (5, .ref (h 61)), (6, .ref (h 62)), (7, .ref (h 63)), (8, .ref (h 64)), (9, .ref (h 65)), (10, .ref (h 66)), (11, .ref (h 67)), (12, .ref (h 68)), (13, .ref (h 69)), (14, .int x14), (15, .int x15), (16, .int v1), (21, .int v48), (22, .int v49), (23, .int v50), (26, .int v56)] [.int v60] (s58, ν0) (j v60)) ?_ (fun j528 hj528 => ?_)
                    · intro v60
                      refine G.istore (lv' := [(19, .int v60), (0, .ref b), (1, .ref (h 0)), (2, .ref (h 58)), (3, .ref (h 59)), (4, .ref (h 60)), (5, .ref (h 61)), (6, .ref (h 62)), (7, .ref (h 63)), (8, .ref (h 64)), (9, .ref (h 65)), (10, .ref (h 66)), (11, .ref (h 67)), (12, .ref (h 68)), (13, .ref (h 69)), (14, .int x14), (15, .int x15), (16, .int v1), (21, .int v48), (22, .int v49), (23, .int v50), (26, .int v56)]) E dL_law_528 (by decide) rfl ?_
                      refine G.iload E dL_law_530 21 rfl ?_
                      refine G.if_ne (tgt := 538) E dL_law_532 (by decide) ?_ ?_
                      · refine G.goto (tgt := 1287) E dL_law_535 (by decide) ?_
                        refine G.widen (k1 := cb + 2198) (n1 := sb + 23927) (by omega) (by omega) ?_
                        refine G.loc [1, 2, 3, 4, 5, 6, 7, 8, 9, 10, 11, 12, 13, 14, 15, 16, 17, 0] rfl ?_
                        exact hj1287 x14 v60 s58 ν0
                      · refine G.iload E dL_law_538 18 rfl ?_
                        refine G.iload E dL_law_540 19 rfl ?_
                        refine G.iload E dL_law_542 20 rfl ?_
                        refine G.aload_n E dL_law_544 3 rfl rfl ?_
                        refine G.aload_n E dL_law_545 4 rfl rfl ?_
                        refine G.aload E dL_law_546 5 rfl ?_
                        refine G.aload E dL_law_548 6 rfl ?_
                        refine G.callSiW (mc := 0) (ms := 0) (rm := rm_L_adds) (n := 7) (As := [.int v48, .int v49, .int v50, .ref (h 58), .ref (h 59), .ref (h 60), .ref (h 61)]) (fun x => (s58, x)) E dL_law_550 (fun _ _ hv => Con.inN E.wf (c_L_adds (wfL_N E.wf) hv)) gL_law_L_adds rfl rfl rfl (by decide +kernel) ⟨Nat.le_of_ble_eq_true rfl, Nat.le_of_ble_eq_true rfl⟩ rfl (Nat.le_of_ble_eq_true rfl) ⟨by show _ ≤ 600104; omega, by show _ ≤ 7301314; omega⟩ (fun v61 s62 => ?_)
                        refine G.pop E dL_law_553 rfl ?_
                        refine G.aload_n E dL_law_554 3 rfl rfl ?_
                        refine G.iconst (v := 5) E dL_law_555 (by decide) ?_
                        refine G.iconst (v := 0) E dL_law_556 (by decide) ?_
                        refine G.iastW (q0 := 58) (p0 := 0) (n := 6) s62 (fun x => (s58, x)) E dL_law_557 (wsL_at58 _ _ _) (fun j => (wsL_set58 _ _ _ _ _ j)) (fun s63 => ?_)
                        refine G.goto (tgt := 1287) E dL_law_558 (by decide) ?_
                        refine G.widen (k1 := cb + 2198) (n1 := sb + 23927) (by omega) (by omega) ?_
                        refine G.loc [1, 2, 3, 4, 5, 6, 7, 8, 9, 10, 11, 12, 13, 14, 15, 16, 17, 0] rfl ?_
                        exact hj1287 x14 v60 s58 s63
                    · refine G.icmp_ne (tgt := 527) E dL_law_520 (by decide) ?_ ?_
                      · refine G.iconst (v := 1) E dL_law_523 (by decide) ?_
                        refine G.goto (tgt := 528) E dL_law_524 (by decide) ?_
                        refine G.widen (k1 := cb + 3) (n1 := sb + 18) (by omega) (by omega) ?_
                        refine G.loc [0, 1, 2, 3, 4, 5, 6, 7, 8, 9, 10, 11, 12, 13, 14, 15, 16, 17, 18, 19, 20] rfl ?_
                        exact hj528 1
                      · refine G.iconst (v := 0) E dL_law_527 (by decide) ?_
                        refine G.widen (k1 := cb + 3) (n1 := sb + 18) (by omega) (by omega) ?_
                        refine G.loc [0, 1, 2, 3, 4, 5, 6, 7, 8, 9, 10, 11, 12, 13, 14, 15, 16, 17, 18, 19, 20] rfl ?_
                        exact hj528 0
                  · refine G.if_ne (tgt := 506) E dL_law_497 (by decide) ?_ ?_
                    · refine G.sipush (v := (-7100)) E dL_law_500 (by decide) ?_
                      refine G.goto (tgt := 520) E dL_law_503 (by decide) ?_
                      refine G.widen (k1 := cb + 3) (n1 := sb + 18) (by omega) (by omega) ?_
                      refine G.loc [1, 2, 3, 4, 5, 6, 7, 8, 9, 10, 11, 12, 13, 14, 15, 16, 17, 18, 19, 20, 0] rfl ?_
                      exact hj520 (-7100)
                    · refine G.iload E dL_law_506 0 rfl ?_
                      refine G.if_eq (tgt := 517) E dL_law_508 (by decide) ?_ ?_
                      · refine G.sipush (v := (-7300)) E dL_law_517 (by decide) ?_
                        refine G.widen (k1 := cb + 3) (n1 := sb + 18) (by omega) (by omega) ?_
                        refine G.loc [1, 2, 3, 4, 5, 6, 7, 8, 9, 10, 11, 12, 13, 14, 15, 16, 17, 18, 19, 20, 0] rfl ?_
                        exact hj520 (-7300)
                      · refine G.aload_n E dL_law_511 3 rfl rfl ?_
                        refine G.iconst (v := 3) E dL_law_512 (by decide) ?_
                        refine G.ialdW (q0 := 58) (p0 := 0) (n := 6) ν0 E dL_law_513 (wsL_at58 _ _ _) (fun v64 => ?_)
                        refine G.goto (tgt := 520) E dL_law_514 (by decide) ?_
                        refine G.widen (k1 := cb + 3) (n1 := sb + 18) (by omega) (by omega) ?_
                        refine G.loc [1, 2, 3, 4, 5, 6, 7, 8, 9, 10, 11, 12, 13, 14, 15, 16, 17, 18, 19, 20, 0] rfl ?_
                        exact hj520 v64
                · refine G.jn (P := fun j => ∀ (_u : Unit), G p l e room_1 s m #[Value.ref b] below meth c 40 cb sb D (wsL cy h) (adL h) (fun _ : Unit => lw_Z below #[Value.ref b] s) 482 [(0, .ref b), (1, .ref (h 0)), (2, .ref (h 58)), (3, .ref (h 59)), (4, .ref (h 60)), (5, .ref (h 61)), (6, .ref (h 62)), (7, .ref (h 63)), (8, .ref (h 64)), (9, .ref (h 65)), (10, .ref (h 66)), (11, .ref (h 67)), (12, .ref (h 68)), (13, .ref (h 69)), (14, .int x14), (15, .int x15), (16, .int v1), (21, .int v48), (22, .int v49), (23, .int v50), (24, .int v52)] [] (γ0, ν0) (j _u)) ?_ (fun j482 hj482 => ?_)
                  · intro _u
                    refine G.iconst (v := 0) E dL_law_482 (by decide) ?_
                    refine G.widen (k1 := cb) (n1 := sb) (by omega) (by omega) ?_
                    refine G.loc [0, 1, 2, 3, 4, 5, 6, 7, 8, 9, 10, 11, 12, 13, 14, 15, 16, 17, 18, 19, 20] rfl ?_
                    exact hj483 0
                  · refine G.if_eq (tgt := 482) E dL_law_460 (by decide) ?_ ?_
                    · refine G.widen (k1 := cb) (n1 := sb) (by omega) (by omega) ?_
                      refine G.loc [0, 1, 2, 3, 4, 5, 6, 7, 8, 9, 10, 11, 12, 13, 14, 15, 16, 17, 18, 19, 20] rfl ?_
                      exact hj482 ()
                    · refine G.aload_n E dL_law_463 2 rfl rfl ?_
                      refine G.iconst (v := 3) E dL_law_464 (by decide) ?_
                      refine G.ialdW (q0 := 58) (p0 := 0) (n := 6) ν0 E dL_law_465 (wsL_at58 _ _ _) (fun v65 => ?_)
                      refine G.bipush (v := 20) E dL_law_466 (by decide) ?_
                      refine G.icmp_ge (tgt := 482) E dL_law_468 (by decide) ?_ ?_
                      · refine G.widen (k1 := cb) (n1 := sb) (by omega) (by omega) ?_
                        refine G.loc [0, 1, 2, 3, 4, 5, 6, 7, 8, 9, 10, 11, 12, 13, 14, 15, 16, 17, 18, 19, 20] rfl ?_
                        exact hj482 ()
                      · refine G.iload E dL_law_471 21 rfl ?_
                        refine G.bipush (v := 12) E dL_law_473 (by decide) ?_
                        refine G.icmp_ge (tgt := 482) E dL_law_475 (by decide) ?_ ?_
                        · refine G.widen (k1 := cb) (n1 := sb) (by omega) (by omega) ?_
                          refine G.loc [0, 1, 2, 3, 4, 5, 6, 7, 8, 9, 10, 11, 12, 13, 14, 15, 16, 17, 18, 19, 20] rfl ?_
                          exact hj482 ()
                        · refine G.iconst (v := 1) E dL_law_478 (by decide) ?_
                          refine G.goto (tgt := 483) E dL_law_479 (by decide) ?_
                          refine G.widen (k1 := cb) (n1 := sb) (by omega) (by omega) ?_
                          refine G.loc [0, 1, 2, 3, 4, 5, 6, 7, 8, 9, 10, 11, 12, 13, 14, 15, 16, 17, 18, 19, 20] rfl ?_
                          exact hj483 1
              · refine G.jn (P := fun j => ∀ (_u : Unit), G p l e room_1 s m #[Value.ref b] below meth c 40 cb sb D (wsL cy h) (adL h) (fun _ : Unit => lw_Z below #[Value.ref b] s) 423 [(0, .ref b), (1, .ref (h 0)), (2, .ref (h 58)), (3, .ref (h 59)), (4, .ref (h 60)), (5, .ref (h 61)), (6, .ref (h 62)), (7, .ref (h 63)), (8, .ref (h 64)), (9, .ref (h 65)), (10, .ref (h 66)), (11, .ref (h 67)), (12, .ref (h 68)), (13, .ref (h 69)), (14, .int x14), (15, .int x15), (16, .int v1), (21, .int v48), (22, .int v49), (23, .int v50)] [] (γ0, ν0) (j _u)) ?_ (fun j423 hj423 => ?_)
                · intro _u
                  refine G.iconst (v := 0) E dL_law_423 (by decide) ?_
                  refine G.widen (k1 := cb) (n1 := sb) (by omega) (by omega) ?_
                  refine G.loc [0, 1, 2, 3, 4, 5, 6, 7, 8, 9, 10, 11, 12, 13, 14, 15, 16, 17, 18, 19] rfl ?_
                  exact hj424 0
                · refine G.icmp_ne (tgt := 423) E dL_law_404 (by decide) ?_ ?_
                  · refine G.aload_n E dL_law_407 3 rfl rfl ?_
                    refine G.iconst (v := 1) E dL_law_408 (by decide) ?_
                    refine G.ialdW (q0 := 58) (p0 := 0) (n := 6) ν0 E dL_law_409 (wsL_at58 _ _ _) (fun v66 => ?_)
                    refine G.iload E dL_law_410 19 rfl ?_
                    refine G.ishr E dL_law_412 ?_
                    refine G.iconst (v := 1) E dL_law_413 (by decide) ?_
                    refine G.iand E dL_law_414 ?_
                    refine G.iconst (v := 1) E dL_law_415 (by decide) ?_
                    refine G.icmp_ne (tgt := 423) E dL_law_416 (by decide) ?_ ?_
                    · refine G.iconst (v := 1) E dL_law_419 (by decide) ?_
                      refine G.goto (tgt := 424) E dL_law_420 (by decide) ?_
                      refine G.widen (k1 := cb) (n1 := sb) (by omega) (by omega) ?_
                      refine G.loc [1, 2, 3, 4, 5, 6, 7, 8, 9, 10, 11, 12, 13, 14, 15, 16, 17, 18, 19, 0] rfl ?_
                      exact hj424 1
                    · refine G.widen (k1 := cb) (n1 := sb) (by omega) (by omega) ?_
                      refine G.loc [1, 2, 3, 4, 5, 6, 7, 8, 9, 10, 11, 12, 13, 14, 15, 16, 17, 18, 19, 0] rfl ?_
                      exact hj423 ()
                  · refine G.widen (k1 := cb) (n1 := sb) (by omega) (by omega) ?_
                    refine G.loc [1, 2, 3, 4, 5, 6, 7, 8, 9, 10, 11, 12, 13, 14, 15, 16, 17, 18, 19, 0] rfl ?_
                    exact hj423 ()
            · refine G.if_ne (tgt := 379) E dL_law_361 (by decide) ?_ ?_
              · refine G.iconst (v := 1) E dL_law_364 (by decide) ?_
                refine G.iload E dL_law_365 19 rfl ?_
                refine G.bipush (v := 9) E dL_law_367 (by decide) ?_
                refine G.ishr E dL_law_369 ?_
                refine G.bipush (v := 60) E dL_law_370 (by decide) ?_
                refine G.callSi (mc := 0) (ms := 0) (rm := rm_L_low) (n := 2) (As := [.int (v2 >>> (9 &&& 31)), .int 60]) E dL_law_372 (fun _ hv => Con.inN E.wf (c_L_low (wfL_N E.wf) hv)) gL_law_L_low rfl rfl rfl (by decide +kernel) ⟨Nat.le_of_ble_eq_true rfl, Nat.le_of_ble_eq_true rfl⟩ rfl (Nat.le_of_ble_eq_true rfl) ⟨by show _ ≤ 600104; omega, by show _ ≤ 7301314; omega⟩ (fun v68 => ?_)
                refine G.iadd E dL_law_375 ?_
                refine G.goto (tgt := 393) E dL_law_376 (by decide) ?_
                refine G.widen (k1 := cb) (n1 := sb) (by omega) (by omega) ?_
                refine G.loc [2, 3, 4, 5, 6, 7, 8, 9, 10, 11, 12, 13, 14, 15, 16, 17, 18, 1, 0] rfl ?_
                exact hj393 (1 + v68)
              · refine G.iconst (v := 2) E dL_law_379 (by decide) ?_
                refine G.iconst (v := 2) E dL_law_380 (by decide) ?_
                refine G.iload E dL_law_381 19 rfl ?_
                refine G.bipush (v := 9) E dL_law_383 (by decide) ?_
                refine G.ishr E dL_law_385 ?_
                refine G.bipush (v := 6) E dL_law_386 (by decide) ?_
                refine G.callSi (mc := 0) (ms := 0) (rm := rm_L_low) (n := 2) (As := [.int (v2 >>> (9 &&& 31)), .int 6]) E dL_law_388 (fun _ hv => Con.inN E.wf (c_L_low (wfL_N E.wf) hv)) gL_law_L_low rfl rfl rfl (by decide +kernel) ⟨Nat.le_of_ble_eq_true rfl, Nat.le_of_ble_eq_true rfl⟩ rfl (Nat.le_of_ble_eq_true rfl) ⟨by show _ ≤ 600104; omega, by show _ ≤ 7301314; omega⟩ (fun v67 => ?_)
                refine G.imul E dL_law_391 ?_
                refine G.iadd E dL_law_392 ?_
                refine G.widen (k1 := cb) (n1 := sb) (by omega) (by omega) ?_
                refine G.loc [2, 3, 4, 5, 6, 7, 8, 9, 10, 11, 12, 13, 14, 15, 16, 17, 18, 1, 0] rfl ?_
                exact hj393 (2 + (2 * v67))
          refine G.swIn (c0 := 2) (tgt := 336) E dL_law_147 (by decide) (by decide) rfl (by decide) ?_ (fun n2 => ?_)
          · refine G.iload E dL_law_336 17 rfl ?_
            refine G.bipush (v := 7) E dL_law_338 (by decide) ?_
            refine G.callSi (mc := 0) (ms := 0) (rm := rm_L_low) (n := 2) (As := [.int v2, .int 7]) E dL_law_340 (fun _ hv => Con.inN E.wf (c_L_low (wfL_N E.wf) hv)) gL_law_L_low rfl rfl rfl (by decide +kernel) ⟨Nat.le_of_ble_eq_true rfl, Nat.le_of_ble_eq_true rfl⟩ rfl (Nat.le_of_ble_eq_true rfl) ⟨by show _ ≤ 600104; omega, by show _ ≤ 7301314; omega⟩ (fun v69 => ?_)
            refine G.istore (lv' := [(21, .int v69), (0, .ref b), (1, .ref (h 0)), (2, .ref (h 58)), (3, .ref (h 59)), (4, .ref (h 60)), (5, .ref (h 61)), (6, .ref (h 62)), (7, .ref (h 63)), (8, .ref (h 64)), (9, .ref (h 65)), (10, .ref (h 66)), (11, .ref (h 67)), (12, .ref (h 68)), (13, .ref (h 69)), (14, .int x14), (15, .int x15), (16, .int v1), (17, .int v2), (19, .int 1)]) E dL_law_343 (by decide) rfl ?_
            refine G.iload E dL_law_345 18 rfl ?_
            refine G.iconst (v := 5) E dL_law_347 (by decide) ?_
            refine G.ishr E dL_law_348 ?_
            refine G.bipush (v := 7) E dL_law_349 (by decide) ?_
            refine G.callSi (mc := 0) (ms := 0) (rm := rm_L_low) (n := 2) (As := [.int (v2 >>> (5 &&& 31)), .int 7]) E dL_law_351 (fun _ hv => Con.inN E.wf (c_L_low (wfL_N E.wf) hv)) gL_law_L_low rfl rfl rfl (by decide +kernel) ⟨Nat.le_of_ble_eq_true rfl, Nat.le_of_ble_eq_true rfl⟩ rfl (Nat.le_of_ble_eq_true rfl) ⟨by show _ ≤ 600104; omega, by show _ ≤ 7301314; omega⟩ (fun v70 => ?_)
            refine G.istore (lv' := [(22, .int v70), (21, .int v69), (0, .ref b), (1, .ref (h 0)), (2, .ref (h 58)), (3, .ref (h 59)), (4, .ref (h 60)), (5, .ref (h 61)), (6, .ref (h 62)), (7, .ref (h 63)), (8, .ref (h 64)), (9, .ref (h 65)), (10, .ref (h 66)), (11, .ref (h 67)), (12, .ref (h 68)), (13, .ref (h 69)), (14, .int x14), (15, .int x15), (16, .int v1), (17, .int v2), (19, .int 1)]) E dL_law_354 (by decide) rfl ?_
            refine G.iload E dL_law_356 19 rfl ?_
            refine G.bipush (v := 8) E dL_law_358 (by decide) ?_
            refine G.iand E dL_law_360 ?_
            refine G.jn (P := fun j => ∀ (v71 : Int32), G p l e room_1 s m #[Value.ref b] below meth c 40 cb sb D (wsL cy h) (adL h) (fun _ : Unit => lw_Z below #[Value.ref b] s) 393 [(0, .ref b), (1, .ref (h 0)), (2, .ref (h 58)), (3, .ref (h 59)), (4, .ref (h 60)), (5, .ref (h 61)), (6, .ref (h 62)), (7, .ref (h 63)), (8, .ref (h 64)), (9, .ref (h 65)), (10, .ref (h 66)), (11, .ref (h 67)), (12, .ref (h 68)), (13, .ref (h 69)), (14, .int x14), (15, .int x15), (16, .int v1), (21, .int v69), (22, .int v70)] [.int v71] (γ0, ν0) (j v71)) ?_ (fun j393 hj393 => ?_)
            · intro v71
              refine G.istore (lv' := [(23, .int v71), (0, .ref b), (1, .ref (h 0)), (2, .ref (h 58)), (3, .ref (h 59)), (4, .ref (h 60)), (5, .ref (h 61)), (6, .ref (h 62)), (7, .ref (h 63)), (8, .ref (h 64)), (9, .ref (h 65)), (10, .ref (h 66)), (11, .ref (h 67)), (12, .ref (h 68)), (13, .ref (h 69)), (14, .int x14), (15, .int x15), (16, .int v1), (21, .int v69), (22, .int v70)]) E dL_law_393 (by decide) rfl ?_
              refine G.aload_n E dL_law_395 3 rfl rfl ?_
              refine G.iconst (v := 1) E dL_law_396 (by decide) ?_
              refine G.ialdW (q0 := 58) (p0 := 0) (n := 6) ν0 E dL_law_397 (wsL_at58 _ _ _) (fun v72 => ?_)
              refine G.iload E dL_law_398 18 rfl ?_
              refine G.ishr E dL_law_400 ?_
              refine G.iconst (v := 1) E dL_law_401 (by decide) ?_
              refine G.iand E dL_law_402 ?_
              refine G.iconst (v := 1) E dL_law_403 (by decide) ?_
              refine G.jn (P := fun j => ∀ (v73 : Int32), G p l e room_1 s m #[Value.ref b] below meth c 40 cb sb D (wsL cy h) (adL h) (fun _ : Unit => lw_Z below #[Value.ref b] s) 424 [(0, .ref b), (1, .ref (h 0)), (2, .ref (h 58)), (3, .ref (h 59)), (4, .ref (h 60)), (5, .ref (h 61)), (6, .ref (h 62)), (7, .ref (h 63)), (8, .ref (h 64)), (9, .ref (h 65)), (10, .ref (h 66)), (11, .ref (h 67)), (12, .ref (h 68)), (13, .ref (h 69)), (14, .int x14), (15, .int x15), (16, .int v1), (21, .int v69), (22, .int v70), (23, .int v71)] [.int v73] (γ0, ν0) (j v73)) ?_ (fun j424 hj424 => ?_)
              · intro v73
                refine G.istore (lv' := [(24, .int v73), (0, .ref b), (1, .ref (h 0)), (2, .ref (h 58)), (3, .ref (h 59)), (4, .ref (h 60)), (5, .ref (h 61)), (6, .ref (h 62)), (7, .ref (h 63)), (8, .ref (h 64)), (9, .ref (h 65)), (10, .ref (h 66)), (11, .ref (h 67)), (12, .ref (h 68)), (13, .ref (h 69)), (14, .int x14), (15, .int x15), (16, .int v1), (21, .int v69), (22, .int v70), (23, .int v71)]) E dL_law_424 (by decide) rfl ?_
                refine G.iconst (v := 0) E dL_law_426 (by decide) ?_
                refine G.istore (lv' := [(25, .int 0), (24, .int v73), (0, .ref b), (1, .ref (h 0)), (2, .ref (h 58)), (3, .ref (h 59)), (4, .ref (h 60)), (5, .ref (h 61)), (6, .ref (h 62)), (7, .ref (h 63)), (8, .ref (h 64)), (9, .ref (h 65)), (10, .ref (h 66)), (11, .ref (h 67)), (12, .ref (h 68)), (13, .ref (h 69)), (14, .int x14), (15, .int x15), (16, .int v1), (21, .int v69), (22, .int v70), (23, .int v71)]) E dL_law_427 (by decide) rfl ?_
                refine G.iconst (v := 0) E dL_law_429 (by decide) ?_
                refine G.istore (lv' := [(26, .int 0), (25, .int 0), (24, .int v73), (0, .ref b), (1, .ref (h 0)), (2, .ref (h 58)), (3, .ref (h 59)), (4, .ref (h 60)), (5, .ref (h 61)), (6, .ref (h 62)), (7, .ref (h 63)), (8, .ref (h 64)), (9, .ref (h 65)), (10, .ref (h 66)), (11, .ref (h 67)), (12, .ref (h 68)), (13, .ref (h 69)), (14, .int x14), (15, .int x15), (16, .int v1), (21, .int v69), (22, .int v70), (23, .int v71)]) E dL_law_430 (by decide) rfl ?_
                refine G.widen (k1 := cb) (n1 := sb) (by omega) (by omega) ?_
                refine G.loc [3, 4, 5, 6, 7, 8, 9, 10, 11, 12, 13, 14, 15, 16, 17, 18, 19, 20, 21, 22, 2, 1, 0] rfl ?_
                refine gl_L_law_432 (cb := cb) (sb := sb) E hfl X0 hge (by omega) (by omega) (fun v74 => ?_) N _ _
                refine G.iload E dL_law_458 20 rfl ?_
                refine G.jn (P := fun j => ∀ (v75 : Int32), G p l e room_1 s m #[Value.ref b] below meth c 40 cb sb D (wsL cy h) (adL h) (fun _ : Unit => lw_Z below #[Value.ref b] s) 483 [(0, .ref b), (1, .ref (h 0)), (2, .ref (h 58)), (3, .ref (h 59)), (4, .ref (h 60)), (5, .ref (h 61)), (6, .ref (h 62)), (7, .ref (h 63)), (8, .ref (h 64)), (9, .ref (h 65)), (10, .ref (h 66)), (11, .ref (h 67)), (12, .ref (h 68)), (13, .ref (h 69)), (14, .int x14), (15, .int x15), (16, .int v1), (21, .int v69), (22, .int v70), (23, .int v71), (24, .int v73)] [.int v75] (γ0, ν0) (j v75)) ?_ (fun j483 hj483 => ?_)
                · intro v75
                  refine G.istore (lv' := [(26, .int v75), (0, .ref b), (1, .ref (h 0)), (2, .ref (h 58)), (3, .ref (h 59)), (4, .ref (h 60)), (5, .ref (h 61)), (6, .ref (h 62)), (7, .ref (h 63)), (8, .ref (h 64)), (9, .ref (h 65)), (10, .ref (h 66)), (11, .ref (h 67)), (12, .ref (h 68)), (13, .ref (h 69)), (14, .int x14), (15, .int x15), (16, .int v1), (21, .int v69), (22, .int v70), (23, .int v71), (24, .int v73)]) E dL_law_483 (by decide) rfl ?_
                  refine G.aload_n E dL_law_485 2 rfl rfl ?_
                  refine G.iload E dL_law_486 18 rfl ?_
                  refine G.iload E dL_law_488 19 rfl ?_
                  refine G.iload E dL_law_490 20 rfl ?_
                  refine G.callWiW (mc := 3) (ms := 18) (rm := rm_L_wire) (n := 4) (As := [.ref (h 0), .int v69, .int v70, .int v71]) (fun x => (x, ν0)) E dL_law_492 (fun _ _ hv => c_L_wire E.wf hfl hv) gL_law_L_wire rfl rfl rfl (by decide +kernel) ⟨Nat.le_of_ble_eq_true rfl, Nat.le_of_ble_eq_true rfl⟩ rfl (Nat.le_of_ble_eq_true rfl) ⟨by show _ ≤ 600104; omega, by show _ ≤ 7301314; omega⟩ (fun v76 s77 => ?_)
                  refine G.iload E dL_law_495 21 rfl ?_
                  refine G.jn (P := fun j => ∀ (v78 : Int32), G p l e room_1 s m #[Value.ref b] below meth c 40 (cb + 3) (sb + 18) D (wsL cy h) (adL h) (fun _ : Unit => lw_Z below #[Value.ref b] s) 520 [(0, .ref b), (1, .ref (h 0)), (2, .ref (h 58)), (3, .ref (h 59)), (4, .ref (h 60)), (5, .ref (h 61)), (6, .ref (h 62)), (7, .ref (h 63)), (8, .ref (h 64)), (9, .ref (h 65)), (10, .ref (h 66)), (11, .ref (h 67)), (12, .ref (h 68)), (13, .ref (h 69)), (14, .int x14), (15, .int x15), (16, .int v1), (21, .int v69), (22, .int v70), (23, .int v71), (26, .int v75)] [.int v78, .int v76] (s77, ν0) (j v78)) ?_ (fun j520 hj520 => ?_)
                  · intro v78
                    refine G.jn (P := fun j => ∀ (v79 : Int32), G p l e room_1 s m #[Value.ref b] below meth c 40 (cb + 3) (sb + 18) D (wsL cy h) (adL h) (fun _ : Unit => lw_Z below #[Value.ref b] s) 528 [(0, .ref b), (1, .ref (h 0)), (2, .ref (h 58)), (3, .ref (h 59)), (4, .ref (h 60)), (5, .ref (h 61)), (6, .ref (h 62)), (7, .ref (h 63)), (8, .ref (h 64)), (9, .ref (h 65)), (10, .ref (h 66)), (11, .ref (h 67)), (12, .ref (h 68)), (13, .ref (h 69)), (14, .int x14), (15, .int x15), (16, .int v1), (21, .int v69), (22, .int v70), (23, .int v71), (26, .int v75)] [.int v79] (s77, ν0) (j v79)) ?_ (fun j528 hj528 => ?_)
                    · intro v79
                      refine G.istore (lv' := [(19, .int v79), (0, .ref b), (1, .ref (h 0)), (2, .ref (h 58)), (3, .ref (h 59)), (4, .ref (h 60)), (5, .ref (h 61)), (6, .ref (h 62)), (7, .ref (h 63)), (8, .ref (h 64)), (9, .ref (h 65)), (10, .ref (h 66)), (11, .ref (h 67)), (12, .ref (h 68)), (13, .ref (h 69)), (14, .int x14), (15, .int x15), (16, .int v1), (21, .int v69), (22, .int v70), (23, .int v71), (26, .int v75)]) E dL_law_528 (by decide) rfl ?_
                      refine G.iload E dL_law_530 21 rfl ?_
                      refine G.if_ne (tgt := 538) E dL_law_532 (by decide) ?_ ?_
                      · refine G.goto (tgt := 1287) E dL_law_535 (by decide) ?_
                        refine G.widen (k1 := cb + 2198) (n1 := sb + 23927) (by omega) (by omega) ?_
                        refine G.loc [1, 2, 3, 4, 5, 6, 7, 8, 9, 10, 11, 12, 13, 14, 15, 16, 17, 0] rfl ?_
                        exact hj1287 x14 v79 s77 ν0
                      · refine G.iload E dL_law_538 18 rfl ?_
                        refine G.iload E dL_law_540 19 rfl ?_
                        refine G.iload E dL_law_542 20 rfl ?_
                        refine G.aload_n E dL_law_544 3 rfl rfl ?_
                        refine G.aload_n E dL_law_545 4 rfl rfl ?_
                        refine G.aload E dL_law_546 5 rfl ?_
                        refine G.aload E dL_law_548 6 rfl ?_
                        refine G.callSiW (mc := 0) (ms := 0) (rm := rm_L_adds) (n := 7) (As := [.int v69, .int v70, .int v71, .ref (h 58), .ref (h 59), .ref (h 60), .ref (h 61)]) (fun x => (s77, x)) E dL_law_550 (fun _ _ hv => Con.inN E.wf (c_L_adds (wfL_N E.wf) hv)) gL_law_L_adds rfl rfl rfl (by decide +kernel) ⟨Nat.le_of_ble_eq_true rfl, Nat.le_of_ble_eq_true rfl⟩ rfl (Nat.le_of_ble_eq_true rfl) ⟨by show _ ≤ 600104; omega, by show _ ≤ 7301314; omega⟩ (fun v80 s81 => ?_)
                        refine G.pop E dL_law_553 rfl ?_
                        refine G.aload_n E dL_law_554 3 rfl rfl ?_
                        refine G.iconst (v := 5) E dL_law_555 (by decide) ?_
                        refine G.iconst (v := 0) E dL_law_556 (by decide) ?_
                        refine G.iastW (q0 := 58) (p0 := 0) (n := 6) s81 (fun x => (s77, x)) E dL_law_557 (wsL_at58 _ _ _) (fun j => (wsL_set58 _ _ _ _ _ j)) (fun s82 => ?_)
                        refine G.goto (tgt := 1287) E dL_law_558 (by decide) ?_
                        refine G.widen (k1 := cb + 2198) (n1 := sb + 23927) (by omega) (by omega) ?_
                        refine G.loc [1, 2, 3, 4, 5, 6, 7, 8, 9, 10, 11, 12, 13, 14, 15, 16, 17, 0] rfl ?_
                        exact hj1287 x14 v79 s77 s82
                    · refine G.icmp_ne (tgt := 527) E dL_law_520 (by decide) ?_ ?_
                      · refine G.iconst (v := 1) E dL_law_523 (by decide) ?_
                        refine G.goto (tgt := 528) E dL_law_524 (by decide) ?_
                        refine G.widen (k1 := cb + 3) (n1 := sb + 18) (by omega) (by omega) ?_
                        refine G.loc [0, 1, 2, 3, 4, 5, 6, 7, 8, 9, 10, 11, 12, 13, 14, 15, 16, 17, 18, 19, 20] rfl ?_
                        exact hj528 1
                      · refine G.iconst (v := 0) E dL_law_527 (by decide) ?_
                        refine G.widen (k1 := cb + 3) (n1 := sb + 18) (by omega) (by omega) ?_
                        refine G.loc [0, 1, 2, 3, 4, 5, 6, 7, 8, 9, 10, 11, 12, 13, 14, 15, 16, 17, 18, 19, 20] rfl ?_
                        exact hj528 0
                  · refine G.if_ne (tgt := 506) E dL_law_497 (by decide) ?_ ?_
                    · refine G.sipush (v := (-7100)) E dL_law_500 (by decide) ?_
                      refine G.goto (tgt := 520) E dL_law_503 (by decide) ?_
                      refine G.widen (k1 := cb + 3) (n1 := sb + 18) (by omega) (by omega) ?_
                      refine G.loc [1, 2, 3, 4, 5, 6, 7, 8, 9, 10, 11, 12, 13, 14, 15, 16, 17, 18, 19, 20, 0] rfl ?_
                      exact hj520 (-7100)
                    · refine G.iload E dL_law_506 0 rfl ?_
                      refine G.if_eq (tgt := 517) E dL_law_508 (by decide) ?_ ?_
                      · refine G.sipush (v := (-7300)) E dL_law_517 (by decide) ?_
                        refine G.widen (k1 := cb + 3) (n1 := sb + 18) (by omega) (by omega) ?_
                        refine G.loc [1, 2, 3, 4, 5, 6, 7, 8, 9, 10, 11, 12, 13, 14, 15, 16, 17, 18, 19, 20, 0] rfl ?_
                        exact hj520 (-7300)
                      · refine G.aload_n E dL_law_511 3 rfl rfl ?_
                        refine G.iconst (v := 3) E dL_law_512 (by decide) ?_
                        refine G.ialdW (q0 := 58) (p0 := 0) (n := 6) ν0 E dL_law_513 (wsL_at58 _ _ _) (fun v83 => ?_)
                        refine G.goto (tgt := 520) E dL_law_514 (by decide) ?_
                        refine G.widen (k1 := cb + 3) (n1 := sb + 18) (by omega) (by omega) ?_
                        refine G.loc [1, 2, 3, 4, 5, 6, 7, 8, 9, 10, 11, 12, 13, 14, 15, 16, 17, 18, 19, 20, 0] rfl ?_
                        exact hj520 v83
                · refine G.jn (P := fun j => ∀ (_u : Unit), G p l e room_1 s m #[Value.ref b] below meth c 40 cb sb D (wsL cy h) (adL h) (fun _ : Unit => lw_Z below #[Value.ref b] s) 482 [(0, .ref b), (1, .ref (h 0)), (2, .ref (h 58)), (3, .ref (h 59)), (4, .ref (h 60)), (5, .ref (h 61)), (6, .ref (h 62)), (7, .ref (h 63)), (8, .ref (h 64)), (9, .ref (h 65)), (10, .ref (h 66)), (11, .ref (h 67)), (12, .ref (h 68)), (13, .ref (h 69)), (14, .int x14), (15, .int x15), (16, .int v1), (21, .int v69), (22, .int v70), (23, .int v71), (24, .int v73)] [] (γ0, ν0) (j _u)) ?_ (fun j482 hj482 => ?_)
                  · intro _u
                    refine G.iconst (v := 0) E dL_law_482 (by decide) ?_
                    refine G.widen (k1 := cb) (n1 := sb) (by omega) (by omega) ?_
                    refine G.loc [0, 1, 2, 3, 4, 5, 6, 7, 8, 9, 10, 11, 12, 13, 14, 15, 16, 17, 18, 19, 20] rfl ?_
                    exact hj483 0
                  · refine G.if_eq (tgt := 482) E dL_law_460 (by decide) ?_ ?_
                    · refine G.widen (k1 := cb) (n1 := sb) (by omega) (by omega) ?_
                      refine G.loc [0, 1, 2, 3, 4, 5, 6, 7, 8, 9, 10, 11, 12, 13, 14, 15, 16, 17, 18, 19, 20] rfl ?_
                      exact hj482 ()
                    · refine G.aload_n E dL_law_463 2 rfl rfl ?_
                      refine G.iconst (v := 3) E dL_law_464 (by decide) ?_
                      refine G.ialdW (q0 := 58) (p0 := 0) (n := 6) ν0 E dL_law_465 (wsL_at58 _ _ _) (fun v84 => ?_)
                      refine G.bipush (v := 20) E dL_law_466 (by decide) ?_
                      refine G.icmp_ge (tgt := 482) E dL_law_468 (by decide) ?_ ?_
                      · refine G.widen (k1 := cb) (n1 := sb) (by omega) (by omega) ?_
                        refine G.loc [0, 1, 2, 3, 4, 5, 6, 7, 8, 9, 10, 11, 12, 13, 14, 15, 16, 17, 18, 19, 20] rfl ?_
                        exact hj482 ()
                      · refine G.iload E dL_law_471 21 rfl ?_
                        refine G.bipush (v := 12) E dL_law_473 (by decide) ?_
                        refine G.icmp_ge (tgt := 482) E dL_law_475 (by decide) ?_ ?_
                        · refine G.widen (k1 := cb) (n1 := sb) (by omega) (by omega) ?_
                          refine G.loc [0, 1, 2, 3, 4, 5, 6, 7, 8, 9, 10, 11, 12, 13, 14, 15, 16, 17, 18, 19, 20] rfl ?_
                          exact hj482 ()
                        · refine G.iconst (v := 1) E dL_law_478 (by decide) ?_
                          refine G.goto (tgt := 483) E dL_law_479 (by decide) ?_
                          refine G.widen (k1 := cb) (n1 := sb) (by omega) (by omega) ?_
                          refine G.loc [0, 1, 2, 3, 4, 5, 6, 7, 8, 9, 10, 11, 12, 13, 14, 15, 16, 17, 18, 19, 20] rfl ?_
                          exact hj483 1
              · refine G.jn (P := fun j => ∀ (_u : Unit), G p l e room_1 s m #[Value.ref b] below meth c 40 cb sb D (wsL cy h) (adL h) (fun _ : Unit => lw_Z below #[Value.ref b] s) 423 [(0, .ref b), (1, .ref (h 0)), (2, .ref (h 58)), (3, .ref (h 59)), (4, .ref (h 60)), (5, .ref (h 61)), (6, .ref (h 62)), (7, .ref (h 63)), (8, .ref (h 64)), (9, .ref (h 65)), (10, .ref (h 66)), (11, .ref (h 67)), (12, .ref (h 68)), (13, .ref (h 69)), (14, .int x14), (15, .int x15), (16, .int v1), (21, .int v69), (22, .int v70), (23, .int v71)] [] (γ0, ν0) (j _u)) ?_ (fun j423 hj423 => ?_)
                · intro _u
                  refine G.iconst (v := 0) E dL_law_423 (by decide) ?_
                  refine G.widen (k1 := cb) (n1 := sb) (by omega) (by omega) ?_
                  refine G.loc [0, 1, 2, 3, 4, 5, 6, 7, 8, 9, 10, 11, 12, 13, 14, 15, 16, 17, 18, 19] rfl ?_
                  exact hj424 0
                · refine G.icmp_ne (tgt := 423) E dL_law_404 (by decide) ?_ ?_
                  · refine G.aload_n E dL_law_407 3 rfl rfl ?_
                    refine G.iconst (v := 1) E dL_law_408 (by decide) ?_
                    refine G.ialdW (q0 := 58) (p0 := 0) (n := 6) ν0 E dL_law_409 (wsL_at58 _ _ _) (fun v85 => ?_)
                    refine G.iload E dL_law_410 19 rfl ?_
                    refine G.ishr E dL_law_412 ?_
                    refine G.iconst (v := 1) E dL_law_413 (by decide) ?_
                    refine G.iand E dL_law_414 ?_
                    refine G.iconst (v := 1) E dL_law_415 (by decide) ?_
                    refine G.icmp_ne (tgt := 423) E dL_law_416 (by decide) ?_ ?_
                    · refine G.iconst (v := 1) E dL_law_419 (by decide) ?_
                      refine G.goto (tgt := 424) E dL_law_420 (by decide) ?_
                      refine G.widen (k1 := cb) (n1 := sb) (by omega) (by omega) ?_
                      refine G.loc [1, 2, 3, 4, 5, 6, 7, 8, 9, 10, 11, 12, 13, 14, 15, 16, 17, 18, 19, 0] rfl ?_
                      exact hj424 1
                    · refine G.widen (k1 := cb) (n1 := sb) (by omega) (by omega) ?_
                      refine G.loc [1, 2, 3, 4, 5, 6, 7, 8, 9, 10, 11, 12, 13, 14, 15, 16, 17, 18, 19, 0] rfl ?_
                      exact hj423 ()
                  · refine G.widen (k1 := cb) (n1 := sb) (by omega) (by omega) ?_
                    refine G.loc [1, 2, 3, 4, 5, 6, 7, 8, 9, 10, 11, 12, 13, 14, 15, 16, 17, 18, 19, 0] rfl ?_
                    exact hj423 ()
            · refine G.if_ne (tgt := 379) E dL_law_361 (by decide) ?_ ?_
              · refine G.iconst (v := 1) E dL_law_364 (by decide) ?_
                refine G.iload E dL_law_365 19 rfl ?_
                refine G.bipush (v := 9) E dL_law_367 (by decide) ?_
                refine G.ishr E dL_law_369 ?_
                refine G.bipush (v := 60) E dL_law_370 (by decide) ?_
                refine G.callSi (mc := 0) (ms := 0) (rm := rm_L_low) (n := 2) (As := [.int (v2 >>> (9 &&& 31)), .int 60]) E dL_law_372 (fun _ hv => Con.inN E.wf (c_L_low (wfL_N E.wf) hv)) gL_law_L_low rfl rfl rfl (by decide +kernel) ⟨Nat.le_of_ble_eq_true rfl, Nat.le_of_ble_eq_true rfl⟩ rfl (Nat.le_of_ble_eq_true rfl) ⟨by show _ ≤ 600104; omega, by show _ ≤ 7301314; omega⟩ (fun v87 => ?_)
                refine G.iadd E dL_law_375 ?_
                refine G.goto (tgt := 393) E dL_law_376 (by decide) ?_
                refine G.widen (k1 := cb) (n1 := sb) (by omega) (by omega) ?_
                refine G.loc [2, 3, 4, 5, 6, 7, 8, 9, 10, 11, 12, 13, 14, 15, 16, 17, 18, 1, 0] rfl ?_
                exact hj393 (1 + v87)
              · refine G.iconst (v := 2) E dL_law_379 (by decide) ?_
                refine G.iconst (v := 2) E dL_law_380 (by decide) ?_
                refine G.iload E dL_law_381 19 rfl ?_
                refine G.bipush (v := 9) E dL_law_383 (by decide) ?_
                refine G.ishr E dL_law_385 ?_
                refine G.bipush (v := 6) E dL_law_386 (by decide) ?_
                refine G.callSi (mc := 0) (ms := 0) (rm := rm_L_low) (n := 2) (As := [.int (v2 >>> (9 &&& 31)), .int 6]) E dL_law_388 (fun _ hv => Con.inN E.wf (c_L_low (wfL_N E.wf) hv)) gL_law_L_low rfl rfl rfl (by decide +kernel) ⟨Nat.le_of_ble_eq_true rfl, Nat.le_of_ble_eq_true rfl⟩ rfl (Nat.le_of_ble_eq_true rfl) ⟨by show _ ≤ 600104; omega, by show _ ≤ 7301314; omega⟩ (fun v86 => ?_)
                refine G.imul E dL_law_391 ?_
                refine G.iadd E dL_law_392 ?_
                refine G.widen (k1 := cb) (n1 := sb) (by omega) (by omega) ?_
                refine G.loc [2, 3, 4, 5, 6, 7, 8, 9, 10, 11, 12, 13, 14, 15, 16, 17, 18, 1, 0] rfl ?_
                exact hj393 (2 + (2 * v86))
          refine G.swIn (c0 := 3) (tgt := 336) E dL_law_147 (by decide) (by decide) rfl (by decide) ?_ (fun n3 => ?_)
          · refine G.iload E dL_law_336 17 rfl ?_
            refine G.bipush (v := 7) E dL_law_338 (by decide) ?_
            refine G.callSi (mc := 0) (ms := 0) (rm := rm_L_low) (n := 2) (As := [.int v2, .int 7]) E dL_law_340 (fun _ hv => Con.inN E.wf (c_L_low (wfL_N E.wf) hv)) gL_law_L_low rfl rfl rfl (by decide +kernel) ⟨Nat.le_of_ble_eq_true rfl, Nat.le_of_ble_eq_true rfl⟩ rfl (Nat.le_of_ble_eq_true rfl) ⟨by show _ ≤ 600104; omega, by show _ ≤ 7301314; omega⟩ (fun v88 => ?_)
            refine G.istore (lv' := [(21, .int v88), (0, .ref b), (1, .ref (h 0)), (2, .ref (h 58)), (3, .ref (h 59)), (4, .ref (h 60)), (5, .ref (h 61)), (6, .ref (h 62)), (7, .ref (h 63)), (8, .ref (h 64)), (9, .ref (h 65)), (10, .ref (h 66)), (11, .ref (h 67)), (12, .ref (h 68)), (13, .ref (h 69)), (14, .int x14), (15, .int x15), (16, .int v1), (17, .int v2), (19, .int 1)]) E dL_law_343 (by decide) rfl ?_
            refine G.iload E dL_law_345 18 rfl ?_
            refine G.iconst (v := 5) E dL_law_347 (by decide) ?_
            refine G.ishr E dL_law_348 ?_
            refine G.bipush (v := 7) E dL_law_349 (by decide) ?_
            refine G.callSi (mc := 0) (ms := 0) (rm := rm_L_low) (n := 2) (As := [.int (v2 >>> (5 &&& 31)), .int 7]) E dL_law_351 (fun _ hv => Con.inN E.wf (c_L_low (wfL_N E.wf) hv)) gL_law_L_low rfl rfl rfl (by decide +kernel) ⟨Nat.le_of_ble_eq_true rfl, Nat.le_of_ble_eq_true rfl⟩ rfl (Nat.le_of_ble_eq_true rfl) ⟨by show _ ≤ 600104; omega, by show _ ≤ 7301314; omega⟩ (fun v89 => ?_)
            refine G.istore (lv' := [(22, .int v89), (21, .int v88), (0, .ref b), (1, .ref (h 0)), (2, .ref (h 58)), (3, .ref (h 59)), (4, .ref (h 60)), (5, .ref (h 61)), (6, .ref (h 62)), (7, .ref (h 63)), (8, .ref (h 64)), (9, .ref (h 65)), (10, .ref (h 66)), (11, .ref (h 67)), (12, .ref (h 68)), (13, .ref (h 69)), (14, .int x14), (15, .int x15), (16, .int v1), (17, .int v2), (19, .int 1)]) E dL_law_354 (by decide) rfl ?_
            refine G.iload E dL_law_356 19 rfl ?_
            refine G.bipush (v := 8) E dL_law_358 (by decide) ?_
            refine G.iand E dL_law_360 ?_
            refine G.jn (P := fun j => ∀ (v90 : Int32), G p l e room_1 s m #[Value.ref b] below meth c 40 cb sb D (wsL cy h) (adL h) (fun _ : Unit => lw_Z below #[Value.ref b] s) 393 [(0, .ref b), (1, .ref (h 0)), (2, .ref (h 58)), (3, .ref (h 59)), (4, .ref (h 60)), (5, .ref (h 61)), (6, .ref (h 62)), (7, .ref (h 63)), (8, .ref (h 64)), (9, .ref (h 65)), (10, .ref (h 66)), (11, .ref (h 67)), (12, .ref (h 68)), (13, .ref (h 69)), (14, .int x14), (15, .int x15), (16, .int v1), (21, .int v88), (22, .int v89)] [.int v90] (γ0, ν0) (j v90)) ?_ (fun j393 hj393 => ?_)
            · intro v90
              refine G.istore (lv' := [(23, .int v90), (0, .ref b), (1, .ref (h 0)), (2, .ref (h 58)), (3, .ref (h 59)), (4, .ref (h 60)), (5, .ref (h 61)), (6, .ref (h 62)), (7, .ref (h 63)), (8, .ref (h 64)), (9, .ref (h 65)), (10, .ref (h 66)), (11, .ref (h 67)), (12, .ref (h 68)), (13, .ref (h 69)), (14, .int x14), (15, .int x15), (16, .int v1), (21, .int v88), (22, .int v89)]) E dL_law_393 (by decide) rfl ?_
              refine G.aload_n E dL_law_395 3 rfl rfl ?_
              refine G.iconst (v := 1) E dL_law_396 (by decide) ?_
              refine G.ialdW (q0 := 58) (p0 := 0) (n := 6) ν0 E dL_law_397 (wsL_at58 _ _ _) (fun v91 => ?_)
              refine G.iload E dL_law_398 18 rfl ?_
              refine G.ishr E dL_law_400 ?_
              refine G.iconst (v := 1) E dL_law_401 (by decide) ?_
              refine G.iand E dL_law_402 ?_
              refine G.iconst (v := 1) E dL_law_403 (by decide) ?_
              refine G.jn (P := fun j => ∀ (v92 : Int32), G p l e room_1 s m #[Value.ref b] below meth c 40 cb sb D (wsL cy h) (adL h) (fun _ : Unit => lw_Z below #[Value.ref b] s) 424 [(0, .ref b), (1, .ref (h 0)), (2, .ref (h 58)), (3, .ref (h 59)), (4, .ref (h 60)), (5, .ref (h 61)), (6, .ref (h 62)), (7, .ref (h 63)), (8, .ref (h 64)), (9, .ref (h 65)), (10, .ref (h 66)), (11, .ref (h 67)), (12, .ref (h 68)), (13, .ref (h 69)), (14, .int x14), (15, .int x15), (16, .int v1), (21, .int v88), (22, .int v89), (23, .int v90)] [.int v92] (γ0, ν0) (j v92)) ?_ (fun j424 hj424 => ?_)
              · intro v92
                refine G.istore (lv' := [(24, .int v92), (0, .ref b), (1, .ref (h 0)), (2, .ref (h 58)), (3, .ref (h 59)), (4, .ref (h 60)), (5, .ref (h 61)), (6, .ref (h 62)), (7, .ref (h 63)), (8, .ref (h 64)), (9, .ref (h 65)), (10, .ref (h 66)), (11, .ref (h 67)), (12, .ref (h 68)), (13, .ref (h 69)), (14, .int x14), (15, .int x15), (16, .int v1), (21, .int v88), (22, .int v89), (23, .int v90)]) E dL_law_424 (by decide) rfl ?_
                refine G.iconst (v := 0) E dL_law_426 (by decide) ?_
                refine G.istore (lv' := [(25, .int 0), (24, .int v92), (0, .ref b), (1, .ref (h 0)), (2, .ref (h 58)), (3, .ref (h 59)), (4, .ref (h 60)), (5, .ref (h 61)), (6, .ref (h 62)), (7, .ref (h 63)), (8, .ref (h 64)), (9, .ref (h 65)), (10, .ref (h 66)), (11, .ref (h 67)), (12, .ref (h 68)), (13, .ref (h 69)), (14, .int x14), (15, .int x15), (16, .int v1), (21, .int v88), (22, .int v89), (23, .int v90)]) E dL_law_427 (by decide) rfl ?_
                refine G.iconst (v := 0) E dL_law_429 (by decide) ?_
                refine G.istore (lv' := [(26, .int 0), (25, .int 0), (24, .int v92), (0, .ref b), (1, .ref (h 0)), (2, .ref (h 58)), (3, .ref (h 59)), (4, .ref (h 60)), (5, .ref (h 61)), (6, .ref (h 62)), (7, .ref (h 63)), (8, .ref (h 64)), (9, .ref (h 65)), (10, .ref (h 66)), (11, .ref (h 67)), (12, .ref (h 68)), (13, .ref (h 69)), (14, .int x14), (15, .int x15), (16, .int v1), (21, .int v88), (22, .int v89), (23, .int v90)]) E dL_law_430 (by decide) rfl ?_
                refine G.widen (k1 := cb) (n1 := sb) (by omega) (by omega) ?_
                refine G.loc [3, 4, 5, 6, 7, 8, 9, 10, 11, 12, 13, 14, 15, 16, 17, 18, 19, 20, 21, 22, 2, 1, 0] rfl ?_
                refine gl_L_law_432 (cb := cb) (sb := sb) E hfl X0 hge (by omega) (by omega) (fun v93 => ?_) N _ _
                refine G.iload E dL_law_458 20 rfl ?_
                refine G.jn (P := fun j => ∀ (v94 : Int32), G p l e room_1 s m #[Value.ref b] below meth c 40 cb sb D (wsL cy h) (adL h) (fun _ : Unit => lw_Z below #[Value.ref b] s) 483 [(0, .ref b), (1, .ref (h 0)), (2, .ref (h 58)), (3, .ref (h 59)), (4, .ref (h 60)), (5, .ref (h 61)), (6, .ref (h 62)), (7, .ref (h 63)), (8, .ref (h 64)), (9, .ref (h 65)), (10, .ref (h 66)), (11, .ref (h 67)), (12, .ref (h 68)), (13, .ref (h 69)), (14, .int x14), (15, .int x15), (16, .int v1), (21, .int v88), (22, .int v89), (23, .int v90), (24, .int v92)] [.int v94] (γ0, ν0) (j v94)) ?_ (fun j483 hj483 => ?_)
                · intro v94
                  refine G.istore (lv' := [(26, .int v94), (0, .ref b), (1, .ref (h 0)), (2, .ref (h 58)), (3, .ref (h 59)), (4, .ref (h 60)), (5, .ref (h 61)), (6, .ref (h 62)), (7, .ref (h 63)), (8, .ref (h 64)), (9, .ref (h 65)), (10, .ref (h 66)), (11, .ref (h 67)), (12, .ref (h 68)), (13, .ref (h 69)), (14, .int x14), (15, .int x15), (16, .int v1), (21, .int v88), (22, .int v89), (23, .int v90), (24, .int v92)]) E dL_law_483 (by decide) rfl ?_
                  refine G.aload_n E dL_law_485 2 rfl rfl ?_
                  refine G.iload E dL_law_486 18 rfl ?_
                  refine G.iload E dL_law_488 19 rfl ?_
                  refine G.iload E dL_law_490 20 rfl ?_
                  refine G.callWiW (mc := 3) (ms := 18) (rm := rm_L_wire) (n := 4) (As := [.ref (h 0), .int v88, .int v89, .int v90]) (fun x => (x, ν0)) E dL_law_492 (fun _ _ hv => c_L_wire E.wf hfl hv) gL_law_L_wire rfl rfl rfl (by decide +kernel) ⟨Nat.le_of_ble_eq_true rfl, Nat.le_of_ble_eq_true rfl⟩ rfl (Nat.le_of_ble_eq_true rfl) ⟨by show _ ≤ 600104; omega, by show _ ≤ 7301314; omega⟩ (fun v95 s96 => ?_)
                  refine G.iload E dL_law_495 21 rfl ?_
                  refine G.jn (P := fun j => ∀ (v97 : Int32), G p l e room_1 s m #[Value.ref b] below meth c 40 (cb + 3) (sb + 18) D (wsL cy h) (adL h) (fun _ : Unit => lw_Z below #[Value.ref b] s) 520 [(0, .ref b), (1, .ref (h 0)), (2, .ref (h 58)), (3, .ref (h 59)), (4, .ref (h 60)), (5, .ref (h 61)), (6, .ref (h 62)), (7, .ref (h 63)), (8, .ref (h 64)), (9, .ref (h 65)), (10, .ref (h 66)), (11, .ref (h 67)), (12, .ref (h 68)), (13, .ref (h 69)), (14, .int x14), (15, .int x15), (16, .int v1), (21, .int v88), (22, .int v89), (23, .int v90), (26, .int v94)] [.int v97, .int v95] (s96, ν0) (j v97)) ?_ (fun j520 hj520 => ?_)
                  · intro v97
                    refine G.jn (P := fun j => ∀ (v98 : Int32), G p l e room_1 s m #[Value.ref b] below meth c 40 (cb + 3) (sb + 18) D (wsL cy h) (adL h) (fun _ : Unit => lw_Z below #[Value.ref b] s) 528 [(0, .ref b), (1, .ref (h 0)), (2, .ref (h 58)), (3, .ref (h 59)), (4, .ref (h 60)), (5, .ref (h 61)), (6, .ref (h 62)), (7, .ref (h 63)), (8, .ref (h 64)), (9, .ref (h 65)), (10, .ref (h 66)), (11, .ref (h 67)), (12, .ref (h 68)), (13, .ref (h 69)), (14, .int x14), (15, .int x15), (16, .int v1), (21, .int v88), (22, .int v89), (23, .int v90), (26, .int v94)] [.int v98] (s96, ν0) (j v98)) ?_ (fun j528 hj528 => ?_)
                    · intro v98
                      refine G.istore (lv' := [(19, .int v98), (0, .ref b), (1, .ref (h 0)), (2, .ref (h 58)), (3, .ref (h 59)), (4, .ref (h 60)), (5, .ref (h 61)), (6, .ref (h 62)), (7, .ref (h 63)), (8, .ref (h 64)), (9, .ref (h 65)), (10, .ref (h 66)), (11, .ref (h 67)), (12, .ref (h 68)), (13, .ref (h 69)), (14, .int x14), (15, .int x15), (16, .int v1), (21, .int v88), (22, .int v89), (23, .int v90), (26, .int v94)]) E dL_law_528 (by decide) rfl ?_
                      refine G.iload E dL_law_530 21 rfl ?_
                      refine G.if_ne (tgt := 538) E dL_law_532 (by decide) ?_ ?_
                      · refine G.goto (tgt := 1287) E dL_law_535 (by decide) ?_
                        refine G.widen (k1 := cb + 2198) (n1 := sb + 23927) (by omega) (by omega) ?_
                        refine G.loc [1, 2, 3, 4, 5, 6, 7, 8, 9, 10, 11, 12, 13, 14, 15, 16, 17, 0] rfl ?_
                        exact hj1287 x14 v98 s96 ν0
                      · refine G.iload E dL_law_538 18 rfl ?_
                        refine G.iload E dL_law_540 19 rfl ?_
                        refine G.iload E dL_law_542 20 rfl ?_
                        refine G.aload_n E dL_law_544 3 rfl rfl ?_
                        refine G.aload_n E dL_law_545 4 rfl rfl ?_
                        refine G.aload E dL_law_546 5 rfl ?_
                        refine G.aload E dL_law_548 6 rfl ?_
                        refine G.callSiW (mc := 0) (ms := 0) (rm := rm_L_adds) (n := 7) (As := [.int v88, .int v89, .int v90, .ref (h 58), .ref (h 59), .ref (h 60), .ref (h 61)]) (fun x => (s96, x)) E dL_law_550 (fun _ _ hv => Con.inN E.wf (c_L_adds (wfL_N E.wf) hv)) gL_law_L_adds rfl rfl rfl (by decide +kernel) ⟨Nat.le_of_ble_eq_true rfl, Nat.le_of_ble_eq_true rfl⟩ rfl (Nat.le_of_ble_eq_true rfl) ⟨by show _ ≤ 600104; omega, by show _ ≤ 7301314; omega⟩ (fun v99 s100 => ?_)
                        refine G.pop E dL_law_553 rfl ?_
                        refine G.aload_n E dL_law_554 3 rfl rfl ?_
                        refine G.iconst (v := 5) E dL_law_555 (by decide) ?_
                        refine G.iconst (v := 0) E dL_law_556 (by decide) ?_
                        refine G.iastW (q0 := 58) (p0 := 0) (n := 6) s100 (fun x => (s96, x)) E dL_law_557 (wsL_at58 _ _ _) (fun j => (wsL_set58 _ _ _ _ _ j)) (fun s101 => ?_)
                        refine G.goto (tgt := 1287) E dL_law_558 (by decide) ?_
                        refine G.widen (k1 := cb + 2198) (n1 := sb + 23927) (by omega) (by omega) ?_
                        refine G.loc [1, 2, 3, 4, 5, 6, 7, 8, 9, 10, 11, 12, 13, 14, 15, 16, 17, 0] rfl ?_
                        exact hj1287 x14 v98 s96 s101
                    · refine G.icmp_ne (tgt := 527) E dL_law_520 (by decide) ?_ ?_
                      · refine G.iconst (v := 1) E dL_law_523 (by decide) ?_
                        refine G.goto (tgt := 528) E dL_law_524 (by decide) ?_
                        refine G.widen (k1 := cb + 3) (n1 := sb + 18) (by omega) (by omega) ?_
                        refine G.loc [0, 1, 2, 3, 4, 5, 6, 7, 8, 9, 10, 11, 12, 13, 14, 15, 16, 17, 18, 19, 20] rfl ?_
                        exact hj528 1
                      · refine G.iconst (v := 0) E dL_law_527 (by decide) ?_
                        refine G.widen (k1 := cb + 3) (n1 := sb + 18) (by omega) (by omega) ?_
                        refine G.loc [0, 1, 2, 3, 4, 5, 6, 7, 8, 9, 10, 11, 12, 13, 14, 15, 16, 17, 18, 19, 20] rfl ?_
                        exact hj528 0
                  · refine G.if_ne (tgt := 506) E dL_law_497 (by decide) ?_ ?_
                    · refine G.sipush (v := (-7100)) E dL_law_500 (by decide) ?_
                      refine G.goto (tgt := 520) E dL_law_503 (by decide) ?_
                      refine G.widen (k1 := cb + 3) (n1 := sb + 18) (by omega) (by omega) ?_
                      refine G.loc [1, 2, 3, 4, 5, 6, 7, 8, 9, 10, 11, 12, 13, 14, 15, 16, 17, 18, 19, 20, 0] rfl ?_
                      exact hj520 (-7100)
                    · refine G.iload E dL_law_506 0 rfl ?_
                      refine G.if_eq (tgt := 517) E dL_law_508 (by decide) ?_ ?_
                      · refine G.sipush (v := (-7300)) E dL_law_517 (by decide) ?_
                        refine G.widen (k1 := cb + 3) (n1 := sb + 18) (by omega) (by omega) ?_
                        refine G.loc [1, 2, 3, 4, 5, 6, 7, 8, 9, 10, 11, 12, 13, 14, 15, 16, 17, 18, 19, 20, 0] rfl ?_
                        exact hj520 (-7300)
                      · refine G.aload_n E dL_law_511 3 rfl rfl ?_
                        refine G.iconst (v := 3) E dL_law_512 (by decide) ?_
                        refine G.ialdW (q0 := 58) (p0 := 0) (n := 6) ν0 E dL_law_513 (wsL_at58 _ _ _) (fun v102 => ?_)
                        refine G.goto (tgt := 520) E dL_law_514 (by decide) ?_
                        refine G.widen (k1 := cb + 3) (n1 := sb + 18) (by omega) (by omega) ?_
                        refine G.loc [1, 2, 3, 4, 5, 6, 7, 8, 9, 10, 11, 12, 13, 14, 15, 16, 17, 18, 19, 20, 0] rfl ?_
                        exact hj520 v102
                · refine G.jn (P := fun j => ∀ (_u : Unit), G p l e room_1 s m #[Value.ref b] below meth c 40 cb sb D (wsL cy h) (adL h) (fun _ : Unit => lw_Z below #[Value.ref b] s) 482 [(0, .ref b), (1, .ref (h 0)), (2, .ref (h 58)), (3, .ref (h 59)), (4, .ref (h 60)), (5, .ref (h 61)), (6, .ref (h 62)), (7, .ref (h 63)), (8, .ref (h 64)), (9, .ref (h 65)), (10, .ref (h 66)), (11, .ref (h 67)), (12, .ref (h 68)), (13, .ref (h 69)), (14, .int x14), (15, .int x15), (16, .int v1), (21, .int v88), (22, .int v89), (23, .int v90), (24, .int v92)] [] (γ0, ν0) (j _u)) ?_ (fun j482 hj482 => ?_)
                  · intro _u
                    refine G.iconst (v := 0) E dL_law_482 (by decide) ?_
                    refine G.widen (k1 := cb) (n1 := sb) (by omega) (by omega) ?_
                    refine G.loc [0, 1, 2, 3, 4, 5, 6, 7, 8, 9, 10, 11, 12, 13, 14, 15, 16, 17, 18, 19, 20] rfl ?_
                    exact hj483 0
                  · refine G.if_eq (tgt := 482) E dL_law_460 (by decide) ?_ ?_
                    · refine G.widen (k1 := cb) (n1 := sb) (by omega) (by omega) ?_
                      refine G.loc [0, 1, 2, 3, 4, 5, 6, 7, 8, 9, 10, 11, 12, 13, 14, 15, 16, 17, 18, 19, 20] rfl ?_
                      exact hj482 ()
                    · refine G.aload_n E dL_law_463 2 rfl rfl ?_
                      refine G.iconst (v := 3) E dL_law_464 (by decide) ?_
                      refine G.ialdW (q0 := 58) (p0 := 0) (n := 6) ν0 E dL_law_465 (wsL_at58 _ _ _) (fun v103 => ?_)
                      refine G.bipush (v := 20) E dL_law_466 (by decide) ?_
                      refine G.icmp_ge (tgt := 482) E dL_law_468 (by decide) ?_ ?_
                      · refine G.widen (k1 := cb) (n1 := sb) (by omega) (by omega) ?_
                        refine G.loc [0, 1, 2, 3, 4, 5, 6, 7, 8, 9, 10, 11, 12, 13, 14, 15, 16, 17, 18, 19, 20] rfl ?_
                        exact hj482 ()
                      · refine G.iload E dL_law_471 21 rfl ?_
                        refine G.bipush (v := 12) E dL_law_473 (by decide) ?_
                        refine G.icmp_ge (tgt := 482) E dL_law_475 (by decide) ?_ ?_
                        · refine G.widen (k1 := cb) (n1 := sb) (by omega) (by omega) ?_
                          refine G.loc [0, 1, 2, 3, 4, 5, 6, 7, 8, 9, 10, 11, 12, 13, 14, 15, 16, 17, 18, 19, 20] rfl ?_
                          exact hj482 ()
                        · refine G.iconst (v := 1) E dL_law_478 (by decide) ?_
                          refine G.goto (tgt := 483) E dL_law_479 (by decide) ?_
                          refine G.widen (k1 := cb) (n1 := sb) (by omega) (by omega) ?_
                          refine G.loc [0, 1, 2, 3, 4, 5, 6, 7, 8, 9, 10, 11, 12, 13, 14, 15, 16, 17, 18, 19, 20] rfl ?_
                          exact hj483 1
              · refine G.jn (P := fun j => ∀ (_u : Unit), G p l e room_1 s m #[Value.ref b] below meth c 40 cb sb D (wsL cy h) (adL h) (fun _ : Unit => lw_Z below #[Value.ref b] s) 423 [(0, .ref b), (1, .ref (h 0)), (2, .ref (h 58)), (3, .ref (h 59)), (4, .ref (h 60)), (5, .ref (h 61)), (6, .ref (h 62)), (7, .ref (h 63)), (8, .ref (h 64)), (9, .ref (h 65)), (10, .ref (h 66)), (11, .ref (h 67)), (12, .ref (h 68)), (13, .ref (h 69)), (14, .int x14), (15, .int x15), (16, .int v1), (21, .int v88), (22, .int v89), (23, .int v90)] [] (γ0, ν0) (j _u)) ?_ (fun j423 hj423 => ?_)
                · intro _u
                  refine G.iconst (v := 0) E dL_law_423 (by decide) ?_
                  refine G.widen (k1 := cb) (n1 := sb) (by omega) (by omega) ?_
                  refine G.loc [0, 1, 2, 3, 4, 5, 6, 7, 8, 9, 10, 11, 12, 13, 14, 15, 16, 17, 18, 19] rfl ?_
                  exact hj424 0
                · refine G.icmp_ne (tgt := 423) E dL_law_404 (by decide) ?_ ?_
                  · refine G.aload_n E dL_law_407 3 rfl rfl ?_
                    refine G.iconst (v := 1) E dL_law_408 (by decide) ?_
                    refine G.ialdW (q0 := 58) (p0 := 0) (n := 6) ν0 E dL_law_409 (wsL_at58 _ _ _) (fun v104 => ?_)
                    refine G.iload E dL_law_410 19 rfl ?_
                    refine G.ishr E dL_law_412 ?_
                    refine G.iconst (v := 1) E dL_law_413 (by decide) ?_
                    refine G.iand E dL_law_414 ?_
                    refine G.iconst (v := 1) E dL_law_415 (by decide) ?_
                    refine G.icmp_ne (tgt := 423) E dL_law_416 (by decide) ?_ ?_
                    · refine G.iconst (v := 1) E dL_law_419 (by decide) ?_
                      refine G.goto (tgt := 424) E dL_law_420 (by decide) ?_
                      refine G.widen (k1 := cb) (n1 := sb) (by omega) (by omega) ?_
                      refine G.loc [1, 2, 3, 4, 5, 6, 7, 8, 9, 10, 11, 12, 13, 14, 15, 16, 17, 18, 19, 0] rfl ?_
                      exact hj424 1
                    · refine G.widen (k1 := cb) (n1 := sb) (by omega) (by omega) ?_
                      refine G.loc [1, 2, 3, 4, 5, 6, 7, 8, 9, 10, 11, 12, 13, 14, 15, 16, 17, 18, 19, 0] rfl ?_
                      exact hj423 ()
                  · refine G.widen (k1 := cb) (n1 := sb) (by omega) (by omega) ?_
                    refine G.loc [1, 2, 3, 4, 5, 6, 7, 8, 9, 10, 11, 12, 13, 14, 15, 16, 17, 18, 19, 0] rfl ?_
                    exact hj423 ()
            · refine G.if_ne (tgt := 379) E dL_law_361 (by decide) ?_ ?_
              · refine G.iconst (v := 1) E dL_law_364 (by decide) ?_
                refine G.iload E dL_law_365 19 rfl ?_
                refine G.bipush (v := 9) E dL_law_367 (by decide) ?_
                refine G.ishr E dL_law_369 ?_
                refine G.bipush (v := 60) E dL_law_370 (by decide) ?_
                refine G.callSi (mc := 0) (ms := 0) (rm := rm_L_low) (n := 2) (As := [.int (v2 >>> (9 &&& 31)), .int 60]) E dL_law_372 (fun _ hv => Con.inN E.wf (c_L_low (wfL_N E.wf) hv)) gL_law_L_low rfl rfl rfl (by decide +kernel) ⟨Nat.le_of_ble_eq_true rfl, Nat.le_of_ble_eq_true rfl⟩ rfl (Nat.le_of_ble_eq_true rfl) ⟨by show _ ≤ 600104; omega, by show _ ≤ 7301314; omega⟩ (fun v106 => ?_)
                refine G.iadd E dL_law_375 ?_
                refine G.goto (tgt := 393) E dL_law_376 (by decide) ?_
                refine G.widen (k1 := cb) (n1 := sb) (by omega) (by omega) ?_
                refine G.loc [2, 3, 4, 5, 6, 7, 8, 9, 10, 11, 12, 13, 14, 15, 16, 17, 18, 1, 0] rfl ?_
                exact hj393 (1 + v106)
              · refine G.iconst (v := 2) E dL_law_379 (by decide) ?_
                refine G.iconst (v := 2) E dL_law_380 (by decide) ?_
                refine G.iload E dL_law_381 19 rfl ?_
                refine G.bipush (v := 9) E dL_law_383 (by decide) ?_
                refine G.ishr E dL_law_385 ?_
                refine G.bipush (v := 6) E dL_law_386 (by decide) ?_
                refine G.callSi (mc := 0) (ms := 0) (rm := rm_L_low) (n := 2) (As := [.int (v2 >>> (9 &&& 31)), .int 6]) E dL_law_388 (fun _ hv => Con.inN E.wf (c_L_low (wfL_N E.wf) hv)) gL_law_L_low rfl rfl rfl (by decide +kernel) ⟨Nat.le_of_ble_eq_true rfl, Nat.le_of_ble_eq_true rfl⟩ rfl (Nat.le_of_ble_eq_true rfl) ⟨by show _ ≤ 600104; omega, by show _ ≤ 7301314; omega⟩ (fun v105 => ?_)
                refine G.imul E dL_law_391 ?_
                refine G.iadd E dL_law_392 ?_
                refine G.widen (k1 := cb) (n1 := sb) (by omega) (by omega) ?_
                refine G.loc [2, 3, 4, 5, 6, 7, 8, 9, 10, 11, 12, 13, 14, 15, 16, 17, 18, 1, 0] rfl ?_
                exact hj393 (2 + (2 * v105))
          refine G.swIn (c0 := 4) (tgt := 336) E dL_law_147 (by decide) (by decide) rfl (by decide) ?_ (fun n4 => ?_)
          · refine G.iload E dL_law_336 17 rfl ?_
            refine G.bipush (v := 7) E dL_law_338 (by decide) ?_
            refine G.callSi (mc := 0) (ms := 0) (rm := rm_L_low) (n := 2) (As := [.int v2, .int 7]) E dL_law_340 (fun _ hv => Con.inN E.wf (c_L_low (wfL_N E.wf) hv)) gL_law_L_low rfl rfl rfl (by decide +kernel) ⟨Nat.le_of_ble_eq_true rfl, Nat.le_of_ble_eq_true rfl⟩ rfl (Nat.le_of_ble_eq_true rfl) ⟨by show _ ≤ 600104; omega, by show _ ≤ 7301314; omega⟩ (fun v107 => ?_)
            refine G.istore (lv' := [(21, .int v107), (0, .ref b), (1, .ref (h 0)), (2, .ref (h 58)), (3, .ref (h 59)), (4, .ref (h 60)), (5, .ref (h 61)), (6, .ref (h 62)), (7, .ref (h 63)), (8, .ref (h 64)), (9, .ref (h 65)), (10, .ref (h 66)), (11, .ref (h 67)), (12, .ref (h 68)), (13, .ref (h 69)), (14, .int x14), (15, .int x15), (16, .int v1), (17, .int v2), (19, .int 1)]) E dL_law_343 (by decide) rfl ?_
            refine G.iload E dL_law_345 18 rfl ?_
            refine G.iconst (v := 5) E dL_law_347 (by decide) ?_
            refine G.ishr E dL_law_348 ?_
            refine G.bipush (v := 7) E dL_law_349 (by decide) ?_
            refine G.callSi (mc := 0) (ms := 0) (rm := rm_L_low) (n := 2) (As := [.int (v2 >>> (5 &&& 31)), .int 7]) E dL_law_351 (fun _ hv => Con.inN E.wf (c_L_low (wfL_N E.wf) hv)) gL_law_L_low rfl rfl rfl (by decide +kernel) ⟨Nat.le_of_ble_eq_true rfl, Nat.le_of_ble_eq_true rfl⟩ rfl (Nat.le_of_ble_eq_true rfl) ⟨by show _ ≤ 600104; omega, by show _ ≤ 7301314; omega⟩ (fun v108 => ?_)
            refine G.istore (lv' := [(22, .int v108), (21, .int v107), (0, .ref b), (1, .ref (h 0)), (2, .ref (h 58)), (3, .ref (h 59)), (4, .ref (h 60)), (5, .ref (h 61)), (6, .ref (h 62)), (7, .ref (h 63)), (8, .ref (h 64)), (9, .ref (h 65)), (10, .ref (h 66)), (11, .ref (h 67)), (12, .ref (h 68)), (13, .ref (h 69)), (14, .int x14), (15, .int x15), (16, .int v1), (17, .int v2), (19, .int 1)]) E dL_law_354 (by decide) rfl ?_
            refine G.iload E dL_law_356 19 rfl ?_
            refine G.bipush (v := 8) E dL_law_358 (by decide) ?_
            refine G.iand E dL_law_360 ?_
            refine G.jn (P := fun j => ∀ (v109 : Int32), G p l e room_1 s m #[Value.ref b] below meth c 40 cb sb D (wsL cy h) (adL h) (fun _ : Unit => lw_Z below #[Value.ref b] s) 393 [(0, .ref b), (1, .ref (h 0)), (2, .ref (h 58)), (3, .ref (h 59)), (4, .ref (h 60)), (5, .ref (h 61)), (6, .ref (h 62)), (7, .ref (h 63)), (8, .ref (h 64)), (9, .ref (h 65)), (10, .ref (h 66)), (11, .ref (h 67)), (12, .ref (h 68)), (13, .ref (h 69)), (14, .int x14), (15, .int x15), (16, .int v1), (21, .int v107), (22, .int v108)] [.int v109] (γ0, ν0) (j v109)) ?_ (fun j393 hj393 => ?_)
            · intro v109
              refine G.istore (lv' := [(23, .int v109), (0, .ref b), (1, .ref (h 0)), (2, .ref (h 58)), (3, .ref (h 59)), (4, .ref (h 60)), (5, .ref (h 61)), (6, .ref (h 62)), (7, .ref (h 63)), (8, .ref (h 64)), (9, .ref (h 65)), (10, .ref (h 66)), (11, .ref (h 67)), (12, .ref (h 68)), (13, .ref (h 69)), (14, .int x14), (15, .int x15), (16, .int v1), (21, .int v107), (22, .int v108)]) E dL_law_393 (by decide) rfl ?_
              refine G.aload_n E dL_law_395 3 rfl rfl ?_
              refine G.iconst (v := 1) E dL_law_396 (by decide) ?_
              refine G.ialdW (q0 := 58) (p0 := 0) (n := 6) ν0 E dL_law_397 (wsL_at58 _ _ _) (fun v110 => ?_)
              refine G.iload E dL_law_398 18 rfl ?_
              refine G.ishr E dL_law_400 ?_
              refine G.iconst (v := 1) E dL_law_401 (by decide) ?_
              refine G.iand E dL_law_402 ?_
              refine G.iconst (v := 1) E dL_law_403 (by decide) ?_
              refine G.jn (P := fun j => ∀ (v111 : Int32), G p l e room_1 s m #[Value.ref b] below meth c 40 cb sb D (wsL cy h) (adL h) (fun _ : Unit => lw_Z below #[Value.ref b] s) 424 [(0, .ref b), (1, .ref (h 0)), (2, .ref (h 58)), (3, .ref (h 59)), (4, .ref (h 60)), (5, .ref (h 61)), (6, .ref (h 62)), (7, .ref (h 63)), (8, .ref (h 64)), (9, .ref (h 65)), (10, .ref (h 66)), (11, .ref (h 67)), (12, .ref (h 68)), (13, .ref (h 69)), (14, .int x14), (15, .int x15), (16, .int v1), (21, .int v107), (22, .int v108), (23, .int v109)] [.int v111] (γ0, ν0) (j v111)) ?_ (fun j424 hj424 => ?_)
              · intro v111
                refine G.istore (lv' := [(24, .int v111), (0, .ref b), (1, .ref (h 0)), (2, .ref (h 58)), (3, .ref (h 59)), (4, .ref (h 60)), (5, .ref (h 61)), (6, .ref (h 62)), (7, .ref (h 63)), (8, .ref (h 64)), (9, .ref (h 65)), (10, .ref (h 66)), (11, .ref (h 67)), (12, .ref (h 68)), (13, .ref (h 69)), (14, .int x14), (15, .int x15), (16, .int v1), (21, .int v107), (22, .int v108), (23, .int v109)]) E dL_law_424 (by decide) rfl ?_
                refine G.iconst (v := 0) E dL_law_426 (by decide) ?_
                refine G.istore (lv' := [(25, .int 0), (24, .int v111), (0, .ref b), (1, .ref (h 0)), (2, .ref (h 58)), (3, .ref (h 59)), (4, .ref (h 60)), (5, .ref (h 61)), (6, .ref (h 62)), (7, .ref (h 63)), (8, .ref (h 64)), (9, .ref (h 65)), (10, .ref (h 66)), (11, .ref (h 67)), (12, .ref (h 68)), (13, .ref (h 69)), (14, .int x14), (15, .int x15), (16, .int v1), (21, .int v107), (22, .int v108), (23, .int v109)]) E dL_law_427 (by decide) rfl ?_
                refine G.iconst (v := 0) E dL_law_429 (by decide) ?_
                refine G.istore (lv' := [(26, .int 0), (25, .int 0), (24, .int v111), (0, .ref b), (1, .ref (h 0)), (2, .ref (h 58)), (3, .ref (h 59)), (4, .ref (h 60)), (5, .ref (h 61)), (6, .ref (h 62)), (7, .ref (h 63)), (8, .ref (h 64)), (9, .ref (h 65)), (10, .ref (h 66)), (11, .ref (h 67)), (12, .ref (h 68)), (13, .ref (h 69)), (14, .int x14), (15, .int x15), (16, .int v1), (21, .int v107), (22, .int v108), (23, .int v109)]) E dL_law_430 (by decide) rfl ?_
                refine G.widen (k1 := cb) (n1 := sb) (by omega) (by omega) ?_
                refine G.loc [3, 4, 5, 6, 7, 8, 9, 10, 11, 12, 13, 14, 15, 16, 17, 18, 19, 20, 21, 22, 2, 1, 0] rfl ?_
                refine gl_L_law_432 (cb := cb) (sb := sb) E hfl X0 hge (by omega) (by omega) (fun v112 => ?_) N _ _
                refine G.iload E dL_law_458 20 rfl ?_
                refine G.jn (P := fun j => ∀ (v113 : Int32), G p l e room_1 s m #[Value.ref b] below meth c 40 cb sb D (wsL cy h) (adL h) (fun _ : Unit => lw_Z below #[Value.ref b] s) 483 [(0, .ref b), (1, .ref (h 0)), (2, .ref (h 58)), (3, .ref (h 59)), (4, .ref (h 60)), (5, .ref (h 61)), (6, .ref (h 62)), (7, .ref (h 63)), (8, .ref (h 64)), (9, .ref (h 65)), (10, .ref (h 66)), (11, .ref (h 67)), (12, .ref (h 68)), (13, .ref (h 69)), (14, .int x14), (15, .int x15), (16, .int v1), (21, .int v107), (22, .int v108), (23, .int v109), (24, .int v111)] [.int v113] (γ0, ν0) (j v113)) ?_ (fun j483 hj483 => ?_)
                · intro v113
                  refine G.istore (lv' := [(26, .int v113), (0, .ref b), (1, .ref (h 0)), (2, .ref (h 58)), (3, .ref (h 59)), (4, .ref (h 60)), (5, .ref (h 61)), (6, .ref (h 62)), (7, .ref (h 63)), (8, .ref (h 64)), (9, .ref (h 65)), (10, .ref (h 66)), (11, .ref (h 67)), (12, .ref (h 68)), (13, .ref (h 69)), (14, .int x14), (15, .int x15), (16, .int v1), (21, .int v107), (22, .int v108), (23, .int v109), (24, .int v111)]) E dL_law_483 (by decide) rfl ?_
                  refine G.aload_n E dL_law_485 2 rfl rfl ?_
                  refine G.iload E dL_law_486 18 rfl ?_
                  refine G.iload E dL_law_488 19 rfl ?_
                  refine G.iload E dL_law_490 20 rfl ?_
                  refine G.callWiW (mc := 3) (ms := 18) (rm := rm_L_wire) (n := 4) (As := [.ref (h 0), .int v107, .int v108, .int v109]) (fun x => (x, ν0)) E dL_law_492 (fun _ _ hv => c_L_wire E.wf hfl hv) gL_law_L_wire rfl rfl rfl (by decide +kernel) ⟨Nat.le_of_ble_eq_true rfl, Nat.le_of_ble_eq_true rfl⟩ rfl (Nat.le_of_ble_eq_true rfl) ⟨by show _ ≤ 600104; omega, by show _ ≤ 7301314; omega⟩ (fun v114 s115 => ?_)
                  refine G.iload E dL_law_495 21 rfl ?_
                  refine G.jn (P := fun j => ∀ (v116 : Int32), G p l e room_1 s m #[Value.ref b] below meth c 40 (cb + 3) (sb + 18) D (wsL cy h) (adL h) (fun _ : Unit => lw_Z below #[Value.ref b] s) 520 [(0, .ref b), (1, .ref (h 0)), (2, .ref (h 58)), (3, .ref (h 59)), (4, .ref (h 60)), (5, .ref (h 61)), (6, .ref (h 62)), (7, .ref (h 63)), (8, .ref (h 64)), (9, .ref (h 65)), (10, .ref (h 66)), (11, .ref (h 67)), (12, .ref (h 68)), (13, .ref (h 69)), (14, .int x14), (15, .int x15), (16, .int v1), (21, .int v107), (22, .int v108), (23, .int v109), (26, .int v113)] [.int v116, .int v114] (s115, ν0) (j v116)) ?_ (fun j520 hj520 => ?_)
                  · intro v116
                    refine G.jn (P := fun j => ∀ (v117 : Int32), G p l e room_1 s m #[Value.ref b] below meth c 40 (cb + 3) (sb + 18) D (wsL cy h) (adL h) (fun _ : Unit => lw_Z below #[Value.ref b] s) 528 [(0, .ref b), (1, .ref (h 0)), (2, .ref (h 58)), (3, .ref (h 59)), (4, .ref (h 60)), (5, .ref (h 61)), (6, .ref (h 62)), (7, .ref (h 63)), (8, .ref (h 64)), (9, .ref (h 65)), (10, .ref (h 66)), (11, .ref (h 67)), (12, .ref (h 68)), (13, .ref (h 69)), (14, .int x14), (15, .int x15), (16, .int v1), (21, .int v107), (22, .int v108), (23, .int v109), (26, .int v113)] [.int v117] (s115, ν0) (j v117)) ?_ (fun j528 hj528 => ?_)
                    · intro v117
                      refine G.istore (lv' := [(19, .int v117), (0, .ref b), (1, .ref (h 0)), (2, .ref (h 58)), (3, .ref (h 59)), (4, .ref (h 60)), (5, .ref (h 61)), (6, .ref (h 62)), (7, .ref (h 63)), (8, .ref (h 64)), (9, .ref (h 65)), (10, .ref (h 66)), (11, .ref (h 67)), (12, .ref (h 68)), (13, .ref (h 69)), (14, .int x14), (15, .int x15), (16, .int v1), (21, .int v107), (22, .int v108), (23, .int v109), (26, .int v113)]) E dL_law_528 (by decide) rfl ?_
                      refine G.iload E dL_law_530 21 rfl ?_
                      refine G.if_ne (tgt := 538) E dL_law_532 (by decide) ?_ ?_
                      · refine G.goto (tgt := 1287) E dL_law_535 (by decide) ?_
                        refine G.widen (k1 := cb + 2198) (n1 := sb + 23927) (by omega) (by omega) ?_
                        refine G.loc [1, 2, 3, 4, 5, 6, 7, 8, 9, 10, 11, 12, 13, 14, 15, 16, 17, 0] rfl ?_
                        exact hj1287 x14 v117 s115 ν0
                      · refine G.iload E dL_law_538 18 rfl ?_
                        refine G.iload E dL_law_540 19 rfl ?_
                        refine G.iload E dL_law_542 20 rfl ?_
                        refine G.aload_n E dL_law_544 3 rfl rfl ?_
                        refine G.aload_n E dL_law_545 4 rfl rfl ?_
                        refine G.aload E dL_law_546 5 rfl ?_
                        refine G.aload E dL_law_548 6 rfl ?_
                        refine G.callSiW (mc := 0) (ms := 0) (rm := rm_L_adds) (n := 7) (As := [.int v107, .int v108, .int v109, .ref (h 58), .ref (h 59), .ref (h 60), .ref (h 61)]) (fun x => (s115, x)) E dL_law_550 (fun _ _ hv => Con.inN E.wf (c_L_adds (wfL_N E.wf) hv)) gL_law_L_adds rfl rfl rfl (by decide +kernel) ⟨Nat.le_of_ble_eq_true rfl, Nat.le_of_ble_eq_true rfl⟩ rfl (Nat.le_of_ble_eq_true rfl) ⟨by show _ ≤ 600104; omega, by show _ ≤ 7301314; omega⟩ (fun v118 s119 => ?_)
                        refine G.pop E dL_law_553 rfl ?_
                        refine G.aload_n E dL_law_554 3 rfl rfl ?_
                        refine G.iconst (v := 5) E dL_law_555 (by decide) ?_
                        refine G.iconst (v := 0) E dL_law_556 (by decide) ?_
                        refine G.iastW (q0 := 58) (p0 := 0) (n := 6) s119 (fun x => (s115, x)) E dL_law_557 (wsL_at58 _ _ _) (fun j => (wsL_set58 _ _ _ _ _ j)) (fun s120 => ?_)
                        refine G.goto (tgt := 1287) E dL_law_558 (by decide) ?_
                        refine G.widen (k1 := cb + 2198) (n1 := sb + 23927) (by omega) (by omega) ?_
                        refine G.loc [1, 2, 3, 4, 5, 6, 7, 8, 9, 10, 11, 12, 13, 14, 15, 16, 17, 0] rfl ?_
                        exact hj1287 x14 v117 s115 s120
                    · refine G.icmp_ne (tgt := 527) E dL_law_520 (by decide) ?_ ?_
                      · refine G.iconst (v := 1) E dL_law_523 (by decide) ?_
                        refine G.goto (tgt := 528) E dL_law_524 (by decide) ?_
                        refine G.widen (k1 := cb + 3) (n1 := sb + 18) (by omega) (by omega) ?_
                        refine G.loc [0, 1, 2, 3, 4, 5, 6, 7, 8, 9, 10, 11, 12, 13, 14, 15, 16, 17, 18, 19, 20] rfl ?_
                        exact hj528 1
                      · refine G.iconst (v := 0) E dL_law_527 (by decide) ?_
                        refine G.widen (k1 := cb + 3) (n1 := sb + 18) (by omega) (by omega) ?_
                        refine G.loc [0, 1, 2, 3, 4, 5, 6, 7, 8, 9, 10, 11, 12, 13, 14, 15, 16, 17, 18, 19, 20] rfl ?_
                        exact hj528 0
                  · refine G.if_ne (tgt := 506) E dL_law_497 (by decide) ?_ ?_
                    · refine G.sipush (v := (-7100)) E dL_law_500 (by decide) ?_
                      refine G.goto (tgt := 520) E dL_law_503 (by decide) ?_
                      refine G.widen (k1 := cb + 3) (n1 := sb + 18) (by omega) (by omega) ?_
                      refine G.loc [1, 2, 3, 4, 5, 6, 7, 8, 9, 10, 11, 12, 13, 14, 15, 16, 17, 18, 19, 20, 0] rfl ?_
                      exact hj520 (-7100)
                    · refine G.iload E dL_law_506 0 rfl ?_
                      refine G.if_eq (tgt := 517) E dL_law_508 (by decide) ?_ ?_
                      · refine G.sipush (v := (-7300)) E dL_law_517 (by decide) ?_
                        refine G.widen (k1 := cb + 3) (n1 := sb + 18) (by omega) (by omega) ?_
                        refine G.loc [1, 2, 3, 4, 5, 6, 7, 8, 9, 10, 11, 12, 13, 14, 15, 16, 17, 18, 19, 20, 0] rfl ?_
                        exact hj520 (-7300)
                      · refine G.aload_n E dL_law_511 3 rfl rfl ?_
                        refine G.iconst (v := 3) E dL_law_512 (by decide) ?_
                        refine G.ialdW (q0 := 58) (p0 := 0) (n := 6) ν0 E dL_law_513 (wsL_at58 _ _ _) (fun v121 => ?_)
                        refine G.goto (tgt := 520) E dL_law_514 (by decide) ?_
                        refine G.widen (k1 := cb + 3) (n1 := sb + 18) (by omega) (by omega) ?_
                        refine G.loc [1, 2, 3, 4, 5, 6, 7, 8, 9, 10, 11, 12, 13, 14, 15, 16, 17, 18, 19, 20, 0] rfl ?_
                        exact hj520 v121
                · refine G.jn (P := fun j => ∀ (_u : Unit), G p l e room_1 s m #[Value.ref b] below meth c 40 cb sb D (wsL cy h) (adL h) (fun _ : Unit => lw_Z below #[Value.ref b] s) 482 [(0, .ref b), (1, .ref (h 0)), (2, .ref (h 58)), (3, .ref (h 59)), (4, .ref (h 60)), (5, .ref (h 61)), (6, .ref (h 62)), (7, .ref (h 63)), (8, .ref (h 64)), (9, .ref (h 65)), (10, .ref (h 66)), (11, .ref (h 67)), (12, .ref (h 68)), (13, .ref (h 69)), (14, .int x14), (15, .int x15), (16, .int v1), (21, .int v107), (22, .int v108), (23, .int v109), (24, .int v111)] [] (γ0, ν0) (j _u)) ?_ (fun j482 hj482 => ?_)
                  · intro _u
                    refine G.iconst (v := 0) E dL_law_482 (by decide) ?_
                    refine G.widen (k1 := cb) (n1 := sb) (by omega) (by omega) ?_
                    refine G.loc [0, 1, 2, 3, 4, 5, 6, 7, 8, 9, 10, 11, 12, 13, 14, 15, 16, 17, 18, 19, 20] rfl ?_
                    exact hj483 0
                  · refine G.if_eq (tgt := 482) E dL_law_460 (by decide) ?_ ?_
                    · refine G.widen (k1 := cb) (n1 := sb) (by omega) (by omega) ?_
                      refine G.loc [0, 1, 2, 3, 4, 5, 6, 7, 8, 9, 10, 11, 12, 13, 14, 15, 16, 17, 18, 19, 20] rfl ?_
                      exact hj482 ()
                    · refine G.aload_n E dL_law_463 2 rfl rfl ?_
                      refine G.iconst (v := 3) E dL_law_464 (by decide) ?_
                      refine G.ialdW (q0 := 58) (p0 := 0) (n := 6) ν0 E dL_law_465 (wsL_at58 _ _ _) (fun v122 => ?_)
                      refine G.bipush (v := 20) E dL_law_466 (by decide) ?_
                      refine G.icmp_ge (tgt := 482) E dL_law_468 (by decide) ?_ ?_
                      · refine G.widen (k1 := cb) (n1 := sb) (by omega) (by omega) ?_
                        refine G.loc [0, 1, 2, 3, 4, 5, 6, 7, 8, 9, 10, 11, 12, 13, 14, 15, 16, 17, 18, 19, 20] rfl ?_
                        exact hj482 ()
                      · refine G.iload E dL_law_471 21 rfl ?_
                        refine G.bipush (v := 12) E dL_law_473 (by decide) ?_
                        refine G.icmp_ge (tgt := 482) E dL_law_475 (by decide) ?_ ?_
                        · refine G.widen (k1 := cb) (n1 := sb) (by omega) (by omega) ?_
                          refine G.loc [0, 1, 2, 3, 4, 5, 6, 7, 8, 9, 10, 11, 12, 13, 14, 15, 16, 17, 18, 19, 20] rfl ?_
                          exact hj482 ()
                        · refine G.iconst (v := 1) E dL_law_478 (by decide) ?_
                          refine G.goto (tgt := 483) E dL_law_479 (by decide) ?_
                          refine G.widen (k1 := cb) (n1 := sb) (by omega) (by omega) ?_
                          refine G.loc [0, 1, 2, 3, 4, 5, 6, 7, 8, 9, 10, 11, 12, 13, 14, 15, 16, 17, 18, 19, 20] rfl ?_
                          exact hj483 1
              · refine G.jn (P := fun j => ∀ (_u : Unit), G p l e room_1 s m #[Value.ref b] below meth c 40 cb sb D (wsL cy h) (adL h) (fun _ : Unit => lw_Z below #[Value.ref b] s) 423 [(0, .ref b), (1, .ref (h 0)), (2, .ref (h 58)), (3, .ref (h 59)), (4, .ref (h 60)), (5, .ref (h 61)), (6, .ref (h 62)), (7, .ref (h 63)), (8, .ref (h 64)), (9, .ref (h 65)), (10, .ref (h 66)), (11, .ref (h 67)), (12, .ref (h 68)), (13, .ref (h 69)), (14, .int x14), (15, .int x15), (16, .int v1), (21, .int v107), (22, .int v108), (23, .int v109)] [] (γ0, ν0) (j _u)) ?_ (fun j423 hj423 => ?_)
                · intro _u
                  refine G.iconst (v := 0) E dL_law_423 (by decide) ?_
                  refine G.widen (k1 := cb) (n1 := sb) (by omega) (by omega) ?_
                  refine G.loc [0, 1, 2, 3, 4, 5, 6, 7, 8, 9, 10, 11, 12, 13, 14, 15, 16, 17, 18, 19] rfl ?_
                  exact hj424 0
                · refine G.icmp_ne (tgt := 423) E dL_law_404 (by decide) ?_ ?_
                  · refine G.aload_n E dL_law_407 3 rfl rfl ?_
                    refine G.iconst (v := 1) E dL_law_408 (by decide) ?_
                    refine G.ialdW (q0 := 58) (p0 := 0) (n := 6) ν0 E dL_law_409 (wsL_at58 _ _ _) (fun v123 => ?_)
                    refine G.iload E dL_law_410 19 rfl ?_
                    refine G.ishr E dL_law_412 ?_
                    refine G.iconst (v := 1) E dL_law_413 (by decide) ?_
                    refine G.iand E dL_law_414 ?_
                    refine G.iconst (v := 1) E dL_law_415 (by decide) ?_
                    refine G.icmp_ne (tgt := 423) E dL_law_416 (by decide) ?_ ?_
                    · refine G.iconst (v := 1) E dL_law_419 (by decide) ?_
                      refine G.goto (tgt := 424) E dL_law_420 (by decide) ?_
                      refine G.widen (k1 := cb) (n1 := sb) (by omega) (by omega) ?_
                      refine G.loc [1, 2, 3, 4, 5, 6, 7, 8, 9, 10, 11, 12, 13, 14, 15, 16, 17, 18, 19, 0] rfl ?_
                      exact hj424 1
                    · refine G.widen (k1 := cb) (n1 := sb) (by omega) (by omega) ?_
                      refine G.loc [1, 2, 3, 4, 5, 6, 7, 8, 9, 10, 11, 12, 13, 14, 15, 16, 17, 18, 19, 0] rfl ?_
                      exact hj423 ()
                  · refine G.widen (k1 := cb) (n1 := sb) (by omega) (by omega) ?_
                    refine G.loc [1, 2, 3, 4, 5, 6, 7, 8, 9, 10, 11, 12, 13, 14, 15, 16, 17, 18, 19, 0] rfl ?_
                    exact hj423 ()
            · refine G.if_ne (tgt := 379) E dL_law_361 (by decide) ?_ ?_
              · refine G.iconst (v := 1) E dL_law_364 (by decide) ?_
                refine G.iload E dL_law_365 19 rfl ?_
                refine G.bipush (v := 9) E dL_law_367 (by decide) ?_
                refine G.ishr E dL_law_369 ?_
                refine G.bipush (v := 60) E dL_law_370 (by decide) ?_
                refine G.callSi (mc := 0) (ms := 0) (rm := rm_L_low) (n := 2) (As := [.int (v2 >>> (9 &&& 31)), .int 60]) E dL_law_372 (fun _ hv => Con.inN E.wf (c_L_low (wfL_N E.wf) hv)) gL_law_L_low rfl rfl rfl (by decide +kernel) ⟨Nat.le_of_ble_eq_true rfl, Nat.le_of_ble_eq_true rfl⟩ rfl (Nat.le_of_ble_eq_true rfl) ⟨by show _ ≤ 600104; omega, by show _ ≤ 7301314; omega⟩ (fun v125 => ?_)
                refine G.iadd E dL_law_375 ?_
                refine G.goto (tgt := 393) E dL_law_376 (by decide) ?_
                refine G.widen (k1 := cb) (n1 := sb) (by omega) (by omega) ?_
                refine G.loc [2, 3, 4, 5, 6, 7, 8, 9, 10, 11, 12, 13, 14, 15, 16, 17, 18, 1, 0] rfl ?_
                exact hj393 (1 + v125)
              · refine G.iconst (v := 2) E dL_law_379 (by decide) ?_
                refine G.iconst (v := 2) E dL_law_380 (by decide) ?_
                refine G.iload E dL_law_381 19 rfl ?_
                refine G.bipush (v := 9) E dL_law_383 (by decide) ?_
                refine G.ishr E dL_law_385 ?_
                refine G.bipush (v := 6) E dL_law_386 (by decide) ?_
                refine G.callSi (mc := 0) (ms := 0) (rm := rm_L_low) (n := 2) (As := [.int (v2 >>> (9 &&& 31)), .int 6]) E dL_law_388 (fun _ hv => Con.inN E.wf (c_L_low (wfL_N E.wf) hv)) gL_law_L_low rfl rfl rfl (by decide +kernel) ⟨Nat.le_of_ble_eq_true rfl, Nat.le_of_ble_eq_true rfl⟩ rfl (Nat.le_of_ble_eq_true rfl) ⟨by show _ ≤ 600104; omega, by show _ ≤ 7301314; omega⟩ (fun v124 => ?_)
                refine G.imul E dL_law_391 ?_
                refine G.iadd E dL_law_392 ?_
                refine G.widen (k1 := cb) (n1 := sb) (by omega) (by omega) ?_
                refine G.loc [2, 3, 4, 5, 6, 7, 8, 9, 10, 11, 12, 13, 14, 15, 16, 17, 18, 1, 0] rfl ?_
                exact hj393 (2 + (2 * v124))
          refine G.swIn (c0 := 5) (tgt := 561) E dL_law_147 (by decide) (by decide) rfl (by decide) ?_ (fun n5 => ?_)
          · refine G.iload E dL_law_561 17 rfl ?_
            refine G.bipush (v := 7) E dL_law_563 (by decide) ?_
            refine G.callSi (mc := 0) (ms := 0) (rm := rm_L_low) (n := 2) (As := [.int v2, .int 7]) E dL_law_565 (fun _ hv => Con.inN E.wf (c_L_low (wfL_N E.wf) hv)) gL_law_L_low rfl rfl rfl (by decide +kernel) ⟨Nat.le_of_ble_eq_true rfl, Nat.le_of_ble_eq_true rfl⟩ rfl (Nat.le_of_ble_eq_true rfl) ⟨by show _ ≤ 600104; omega, by show _ ≤ 7301314; omega⟩ (fun v126 => ?_)
            refine G.istore (lv' := [(27, .int v126), (0, .ref b), (1, .ref (h 0)), (2, .ref (h 58)), (3, .ref (h 59)), (4, .ref (h 60)), (5, .ref (h 61)), (6, .ref (h 62)), (7, .ref (h 63)), (8, .ref (h 64)), (9, .ref (h 65)), (10, .ref (h 66)), (11, .ref (h 67)), (12, .ref (h 68)), (13, .ref (h 69)), (14, .int x14), (15, .int x15), (16, .int v1), (17, .int v2), (19, .int 1)]) E dL_law_568 (by decide) rfl ?_
            refine G.aload_n E dL_law_570 3 rfl rfl ?_
            refine G.iconst (v := 1) E dL_law_571 (by decide) ?_
            refine G.ialdW (q0 := 58) (p0 := 0) (n := 6) ν0 E dL_law_572 (wsL_at58 _ _ _) (fun v127 => ?_)
            refine G.aload_n E dL_law_573 3 rfl rfl ?_
            refine G.iconst (v := 2) E dL_law_574 (by decide) ?_
            refine G.ialdW (q0 := 58) (p0 := 0) (n := 6) ν0 E dL_law_575 (wsL_at58 _ _ _) (fun v128 => ?_)
            refine G.iand E dL_law_576 ?_
            refine G.iconst (v := 1) E dL_law_577 (by decide) ?_
            refine G.iload E dL_law_578 0 rfl ?_
            refine G.ishl E dL_law_580 ?_
            refine G.iand E dL_law_581 ?_
            refine G.jn (P := fun j => ∀ (v129 : Int32), G p l e room_1 s m #[Value.ref b] below meth c 40 cb sb D (wsL cy h) (adL h) (fun _ : Unit => lw_Z below #[Value.ref b] s) 590 [(0, .ref b), (1, .ref (h 0)), (2, .ref (h 58)), (3, .ref (h 59)), (4, .ref (h 60)), (5, .ref (h 61)), (6, .ref (h 62)), (7, .ref (h 63)), (8, .ref (h 64)), (9, .ref (h 65)), (10, .ref (h 66)), (11, .ref (h 67)), (12, .ref (h 68)), (13, .ref (h 69)), (14, .int x14), (15, .int x15), (16, .int v1), (17, .int v2), (27, .int v126)] [.int v129] (γ0, ν0) (j v129)) ?_ (fun j590 hj590 => ?_)
            · intro v129
              refine G.istore (lv' := [(28, .int v129), (0, .ref b), (1, .ref (h 0)), (2, .ref (h 58)), (3, .ref (h 59)), (4, .ref (h 60)), (5, .ref (h 61)), (6, .ref (h 62)), (7, .ref (h 63)), (8, .ref (h 64)), (9, .ref (h 65)), (10, .ref (h 66)), (11, .ref (h 67)), (12, .ref (h 68)), (13, .ref (h 69)), (14, .int x14), (15, .int x15), (16, .int v1), (17, .int v2), (27, .int v126)]) E dL_law_590 (by decide) rfl ?_
              refine G.aload_n E dL_law_592 2 rfl rfl ?_
              refine G.iload E dL_law_593 19 rfl ?_
              refine G.iload E dL_law_595 18 rfl ?_
              refine G.iconst (v := 4) E dL_law_597 (by decide) ?_
              refine G.ishr E dL_law_598 ?_
              refine G.sipush (v := 199) E dL_law_599 (by decide) ?_
              refine G.callSi (mc := 0) (ms := 0) (rm := rm_L_low) (n := 2) (As := [.int (v2 >>> (4 &&& 31)), .int 199]) E dL_law_602 (fun _ hv => Con.inN E.wf (c_L_low (wfL_N E.wf) hv)) gL_law_L_low rfl rfl rfl (by decide +kernel) ⟨Nat.le_of_ble_eq_true rfl, Nat.le_of_ble_eq_true rfl⟩ rfl (Nat.le_of_ble_eq_true rfl) ⟨by show _ ≤ 600104; omega, by show _ ≤ 7301314; omega⟩ (fun v130 => ?_)
              refine G.bipush (v := 99) E dL_law_605 (by decide) ?_
              refine G.isub E dL_law_607 ?_
              refine G.callWiW (mc := 2) (ms := 12) (rm := rm_L_value) (n := 3) (As := [.ref (h 0), .int v126, .int (v130 - 99)]) (fun x => (x, ν0)) E dL_law_608 (fun _ _ hv => c_L_value E.wf hfl hv) gL_law_L_value rfl rfl rfl (by decide +kernel) ⟨Nat.le_of_ble_eq_true rfl, Nat.le_of_ble_eq_true rfl⟩ rfl (Nat.le_of_ble_eq_true rfl) ⟨by show _ ≤ 600104; omega, by show _ ≤ 7301314; omega⟩ (fun v131 s132 => ?_)
              refine G.iload E dL_law_611 0 rfl ?_
              refine G.jn (P := fun j => ∀ (v133 : Int32), G p l e room_1 s m #[Value.ref b] below meth c 40 (cb + 2) (sb + 12) D (wsL cy h) (adL h) (fun _ : Unit => lw_Z below #[Value.ref b] s) 623 [(0, .ref b), (1, .ref (h 0)), (2, .ref (h 58)), (3, .ref (h 59)), (4, .ref (h 60)), (5, .ref (h 61)), (6, .ref (h 62)), (7, .ref (h 63)), (8, .ref (h 64)), (9, .ref (h 65)), (10, .ref (h 66)), (11, .ref (h 67)), (12, .ref (h 68)), (13, .ref (h 69)), (14, .int x14), (15, .int x15), (16, .int v1), (17, .int v2), (27, .int v126), (28, .int v129)] [.int v133, .int v131] (s132, ν0) (j v133)) ?_ (fun j623 hj623 => ?_)
              · intro v133
                refine G.jn (P := fun j => ∀ (v134 : Int32), G p l e room_1 s m #[Value.ref b] below meth c 40 (cb + 2) (sb + 12) D (wsL cy h) (adL h) (fun _ : Unit => lw_Z below #[Value.ref b] s) 631 [(0, .ref b), (1, .ref (h 0)), (2, .ref (h 58)), (3, .ref (h 59)), (4, .ref (h 60)), (5, .ref (h 61)), (6, .ref (h 62)), (7, .ref (h 63)), (8, .ref (h 64)), (9, .ref (h 65)), (10, .ref (h 66)), (11, .ref (h 67)), (12, .ref (h 68)), (13, .ref (h 69)), (14, .int x14), (15, .int x15), (16, .int v1), (17, .int v2), (27, .int v126), (28, .int v129)] [.int v134] (s132, ν0) (j v134)) ?_ (fun j631 hj631 => ?_)
                · intro v134
                  refine G.istore (lv' := [(19, .int v134), (0, .ref b), (1, .ref (h 0)), (2, .ref (h 58)), (3, .ref (h 59)), (4, .ref (h 60)), (5, .ref (h 61)), (6, .ref (h 62)), (7, .ref (h 63)), (8, .ref (h 64)), (9, .ref (h 65)), (10, .ref (h 66)), (11, .ref (h 67)), (12, .ref (h 68)), (13, .ref (h 69)), (14, .int x14), (15, .int x15), (16, .int v1), (17, .int v2), (27, .int v126), (28, .int v129)]) E dL_law_631 (by decide) rfl ?_
                  refine G.aload E dL_law_633 12 rfl ?_
                  refine G.iload E dL_law_635 19 rfl ?_
                  refine G.iload E dL_law_637 20 rfl ?_
                  refine G.jn (P := fun j => ∀ (v135 : Int32), G p l e room_1 s m #[Value.ref b] below meth c 40 (cb + 2) (sb + 12) D (wsL cy h) (adL h) (fun _ : Unit => lw_Z below #[Value.ref b] s) 663 [(0, .ref b), (1, .ref (h 0)), (2, .ref (h 58)), (3, .ref (h 59)), (4, .ref (h 60)), (5, .ref (h 61)), (6, .ref (h 62)), (7, .ref (h 63)), (8, .ref (h 64)), (9, .ref (h 65)), (10, .ref (h 66)), (11, .ref (h 67)), (12, .ref (h 68)), (13, .ref (h 69)), (14, .int x14), (15, .int x15), (16, .int v1), (19, .int v134)] [.int v135, .int v126, .ref (h 67)] (s132, ν0) (j v135)) ?_ (fun j663 hj663 => ?_)
                  · intro v135
                    refine G.iastW (q0 := 67) (p0 := 9) (n := 7) ν0 (fun x => (s132, x)) E dL_law_663 (wsL_at67 _ _ _) (fun j => (wsL_set67 _ _ _ _ _ j)) (fun s136 => ?_)
                    refine G.goto (tgt := 1287) E dL_law_664 (by decide) ?_
                    refine G.widen (k1 := cb + 2198) (n1 := sb + 23927) (by omega) (by omega) ?_
                    refine G.loc [0, 1, 2, 3, 4, 5, 6, 7, 8, 9, 10, 11, 12, 13, 14, 15, 16, 17] rfl ?_
                    exact hj1287 x14 v134 s132 s136
                  · refine G.if_eq (tgt := 658) E dL_law_639 (by decide) ?_ ?_
                    · refine G.aload E dL_law_658 12 rfl ?_
                      refine G.iload E dL_law_660 19 rfl ?_
                      refine G.ialdW (q0 := 67) (p0 := 9) (n := 7) ν0 E dL_law_662 (wsL_at67 _ _ _) (fun v137 => ?_)
                      refine G.widen (k1 := cb + 2) (n1 := sb + 12) (by omega) (by omega) ?_
                      refine G.loc [1, 2, 3, 4, 5, 6, 7, 8, 9, 10, 11, 12, 13, 14, 15, 16, 17, 0] rfl ?_
                      exact hj663 v137
                    · refine G.iload E dL_law_642 18 rfl ?_
                      refine G.iconst (v := 4) E dL_law_644 (by decide) ?_
                      refine G.ishr E dL_law_645 ?_
                      refine G.sipush (v := 199) E dL_law_646 (by decide) ?_
                      refine G.callSi (mc := 0) (ms := 0) (rm := rm_L_low) (n := 2) (As := [.int (v2 >>> (4 &&& 31)), .int 199]) E dL_law_649 (fun _ hv => Con.inN E.wf (c_L_low (wfL_N E.wf) hv)) gL_law_L_low rfl rfl rfl (by decide +kernel) ⟨Nat.le_of_ble_eq_true rfl, Nat.le_of_ble_eq_true rfl⟩ rfl (Nat.le_of_ble_eq_true rfl) ⟨by show _ ≤ 600104; omega, by show _ ≤ 7301314; omega⟩ (fun v138 => ?_)
                      refine G.bipush (v := 99) E dL_law_652 (by decide) ?_
                      refine G.isub E dL_law_654 ?_
                      refine G.goto (tgt := 663) E dL_law_655 (by decide) ?_
                      refine G.widen (k1 := cb + 2) (n1 := sb + 12) (by omega) (by omega) ?_
                      refine G.loc [1, 2, 3, 4, 5, 6, 7, 8, 9, 10, 11, 12, 13, 14, 15, 16, 17, 0] rfl ?_
                      exact hj663 (v138 - 99)
                · refine G.icmp_ne (tgt := 630) E dL_law_623 (by decide) ?_ ?_
                  · refine G.iconst (v := 1) E dL_law_626 (by decide) ?_
                    refine G.goto (tgt := 631) E dL_law_627 (by decide) ?_
                    refine G.widen (k1 := cb + 2) (n1 := sb + 12) (by omega) (by omega) ?_
                    refine G.loc [0, 1, 2, 3, 4, 5, 6, 7, 8, 9, 10, 11, 12, 13, 14, 15, 16, 17, 18, 19] rfl ?_
                    exact hj631 1
                  · refine G.iconst (v := 0) E dL_law_630 (by decide) ?_
                    refine G.widen (k1 := cb + 2) (n1 := sb + 12) (by omega) (by omega) ?_
                    refine G.loc [0, 1, 2, 3, 4, 5, 6, 7, 8, 9, 10, 11, 12, 13, 14, 15, 16, 17, 18, 19] rfl ?_
                    exact hj631 0
              · refine G.if_eq (tgt := 620) E dL_law_613 (by decide) ?_ ?_
                · refine G.sipush (v := (-7100)) E dL_law_620 (by decide) ?_
                  refine G.widen (k1 := cb + 2) (n1 := sb + 12) (by omega) (by omega) ?_
                  refine G.loc [1, 2, 3, 4, 5, 6, 7, 8, 9, 10, 11, 12, 13, 14, 15, 16, 17, 18, 19, 0] rfl ?_
                  exact hj623 (-7100)
                · refine G.iconst (v := 0) E dL_law_616 (by decide) ?_
                  refine G.goto (tgt := 623) E dL_law_617 (by decide) ?_
                  refine G.widen (k1 := cb + 2) (n1 := sb + 12) (by omega) (by omega) ?_
                  refine G.loc [1, 2, 3, 4, 5, 6, 7, 8, 9, 10, 11, 12, 13, 14, 15, 16, 17, 18, 19, 0] rfl ?_
                  exact hj623 0
            · refine G.if_le (tgt := 589) E dL_law_582 (by decide) ?_ ?_
              · refine G.iconst (v := 0) E dL_law_589 (by decide) ?_
                refine G.widen (k1 := cb) (n1 := sb) (by omega) (by omega) ?_
                refine G.loc [1, 2, 3, 4, 5, 6, 7, 8, 9, 10, 11, 12, 13, 14, 15, 16, 17, 18, 0] rfl ?_
                exact hj590 0
              · refine G.iconst (v := 1) E dL_law_585 (by decide) ?_
                refine G.goto (tgt := 590) E dL_law_586 (by decide) ?_
                refine G.widen (k1 := cb) (n1 := sb) (by omega) (by omega) ?_
                refine G.loc [1, 2, 3, 4, 5, 6, 7, 8, 9, 10, 11, 12, 13, 14, 15, 16, 17, 18, 0] rfl ?_
                exact hj590 1
          refine G.swIn (c0 := 6) (tgt := 667) E dL_law_147 (by decide) (by decide) rfl (by decide) ?_ (fun n6 => ?_)
          · refine G.aload_n E dL_law_667 1 rfl rfl ?_
            refine G.callViW (mc := 0) (ms := 0) (rm := rm_X7_simplify) (n := 0) (T := TX7) (N := 7) (C := RX7) (a := h 0) (q0 := 0) (As := []) (fun x => (x, ν0)) E dL_law_668 (fun _ _ hv => Con.inC E.wf (c_X7_simplify (wfL_C E.wf) hv)) gL_law_X7_simplify rfl rfl rfl (by decide +kernel) ⟨Nat.le_of_ble_eq_true rfl, Nat.le_of_ble_eq_true rfl⟩ ((wsL_at0 _ _ _).trans (wsC_at0 _ _ _)) rfl rfl (Nat.le_of_ble_eq_true rfl) ⟨by show _ ≤ 600104; omega, by show _ ≤ 7301314; omega⟩ (fun v139 s140 => ?_)
            refine G.istore (lv' := [(29, .int v139), (0, .ref b), (1, .ref (h 0)), (2, .ref (h 58)), (3, .ref (h 59)), (4, .ref (h 60)), (5, .ref (h 61)), (6, .ref (h 62)), (7, .ref (h 63)), (8, .ref (h 64)), (9, .ref (h 65)), (10, .ref (h 66)), (11, .ref (h 67)), (12, .ref (h 68)), (13, .ref (h 69)), (14, .int x14), (15, .int x15), (16, .int v1), (17, .int v2), (19, .int 1)]) E dL_law_671 (by decide) rfl ?_
            refine G.iconst (v := 0) E dL_law_673 (by decide) ?_
            refine G.istore (lv' := [(30, .int 0), (29, .int v139), (0, .ref b), (1, .ref (h 0)), (2, .ref (h 58)), (3, .ref (h 59)), (4, .ref (h 60)), (5, .ref (h 61)), (6, .ref (h 62)), (7, .ref (h 63)), (8, .ref (h 64)), (9, .ref (h 65)), (10, .ref (h 66)), (11, .ref (h 67)), (12, .ref (h 68)), (13, .ref (h 69)), (14, .int x14), (15, .int x15), (16, .int v1), (17, .int v2), (19, .int 1)]) E dL_law_674 (by decide) rfl ?_
            refine G.iconst (v := 0) E dL_law_676 (by decide) ?_
            refine G.istore (lv' := [(31, .int 0), (30, .int 0), (29, .int v139), (0, .ref b), (1, .ref (h 0)), (2, .ref (h 58)), (3, .ref (h 59)), (4, .ref (h 60)), (5, .ref (h 61)), (6, .ref (h 62)), (7, .ref (h 63)), (8, .ref (h 64)), (9, .ref (h 65)), (10, .ref (h 66)), (11, .ref (h 67)), (12, .ref (h 68)), (13, .ref (h 69)), (14, .int x14), (15, .int x15), (16, .int v1), (17, .int v2), (19, .int 1)]) E dL_law_677 (by decide) rfl ?_
            refine G.widen (k1 := cb) (n1 := sb) (by omega) (by omega) ?_
            refine G.loc [3, 4, 5, 6, 7, 8, 9, 10, 11, 12, 13, 14, 15, 16, 17, 18, 19, 2, 1, 0] rfl ?_
            refine gl_L_law_679 (cX := (cb + 2198)) (sX := (sb + 6594)) E hfl X0 hge (by omega) (by omega) (fun v155 s156 => ?_) 1100 cb sb (by omega) (by omega) _ _ _
            refine G.iload E dL_law_779 17 rfl ?_
            refine G.iload E dL_law_781 18 rfl ?_
            refine G.jn (P := fun j => ∀ (v157 : Int32) (s158 : Wd), G p l e room_1 s m #[Value.ref b] below meth c 40 (cb + 2198) (sb + 6594) D (wsL cy h) (adL h) (fun _ : Unit => lw_Z below #[Value.ref b] s) 808 [(0, .ref b), (1, .ref (h 0)), (2, .ref (h 58)), (3, .ref (h 59)), (4, .ref (h 60)), (5, .ref (h 61)), (6, .ref (h 62)), (7, .ref (h 63)), (8, .ref (h 64)), (9, .ref (h 65)), (10, .ref (h 66)), (11, .ref (h 67)), (12, .ref (h 68)), (13, .ref (h 69)), (14, .int x14), (15, .int x15), (16, .int v1)] [.int v157] (s158, s156) (j v157 s158)) ?_ (fun j808 hj808 => ?_)
            · intro v157 s158
              refine G.istore (lv' := [(19, .int v157), (0, .ref b), (1, .ref (h 0)), (2, .ref (h 58)), (3, .ref (h 59)), (4, .ref (h 60)), (5, .ref (h 61)), (6, .ref (h 62)), (7, .ref (h 63)), (8, .ref (h 64)), (9, .ref (h 65)), (10, .ref (h 66)), (11, .ref (h 67)), (12, .ref (h 68)), (13, .ref (h 69)), (14, .int x14), (15, .int x15), (16, .int v1)]) E dL_law_808 (by decide) rfl ?_
              refine G.goto (tgt := 1287) E dL_law_810 (by decide) ?_
              refine G.widen (k1 := cb + 2198) (n1 := sb + 23927) (by omega) (by omega) ?_
              refine G.loc [1, 2, 3, 4, 5, 6, 7, 8, 9, 10, 11, 12, 13, 14, 15, 16, 17, 0] rfl ?_
              exact hj1287 x14 v157 s158 s156
            · refine G.jn (P := fun j => ∀ (s159 : Wd), G p l e room_1 s m #[Value.ref b] below meth c 40 (cb + 2198) (sb + 6594) D (wsL cy h) (adL h) (fun _ : Unit => lw_Z below #[Value.ref b] s) 807 [(0, .ref b), (1, .ref (h 0)), (2, .ref (h 58)), (3, .ref (h 59)), (4, .ref (h 60)), (5, .ref (h 61)), (6, .ref (h 62)), (7, .ref (h 63)), (8, .ref (h 64)), (9, .ref (h 65)), (10, .ref (h 66)), (11, .ref (h 67)), (12, .ref (h 68)), (13, .ref (h 69)), (14, .int x14), (15, .int x15), (16, .int v1)] [] (s159, s156) (j s159)) ?_ (fun j807 hj807 => ?_)
              · intro s159
                refine G.iconst (v := 0) E dL_law_807 (by decide) ?_
                refine G.widen (k1 := cb + 2198) (n1 := sb + 6594) (by omega) (by omega) ?_
                refine G.loc [0, 1, 2, 3, 4, 5, 6, 7, 8, 9, 10, 11, 12, 13, 14, 15, 16] rfl ?_
                exact hj808 0 s159
              · refine G.icmp_ne (tgt := 807) E dL_law_783 (by decide) ?_ ?_
                · refine G.aload_n E dL_law_786 1 rfl rfl ?_
                  refine G.callViW (mc := 0) (ms := 0) (rm := rm_X7_simplify) (n := 0) (T := TX7) (N := 7) (C := RX7) (a := h 0) (q0 := 0) (As := []) (fun x => (x, s156)) E dL_law_787 (fun _ _ hv => Con.inC E.wf (c_X7_simplify (wfL_C E.wf) hv)) gL_law_X7_simplify rfl rfl rfl (by decide +kernel) ⟨Nat.le_of_ble_eq_true rfl, Nat.le_of_ble_eq_true rfl⟩ ((wsL_at0 _ _ _).trans (wsC_at0 _ _ _)) rfl rfl (Nat.le_of_ble_eq_true rfl) ⟨by show _ ≤ 600104; omega, by show _ ≤ 7301314; omega⟩ (fun v160 s161 => ?_)
                  refine G.if_ne (tgt := 807) E dL_law_790 (by decide) ?_ ?_
                  · refine G.aload_n E dL_law_793 1 rfl rfl ?_
                    refine G.callVi (mc := 0) (ms := 0) (rm := rm_X7_wires) (n := 0) (T := TX7) (N := 7) (C := RX7) (a := h 0) (q0 := 0) (As := []) E dL_law_794 (fun _ hv => Con.inC E.wf (c_X7_wires (wfL_C E.wf) hv)) gL_law_X7_wires rfl rfl rfl (by decide +kernel) ⟨Nat.le_of_ble_eq_true rfl, Nat.le_of_ble_eq_true rfl⟩ ((wsL_at0 _ _ _).trans (wsC_at0 _ _ _)) rfl rfl (Nat.le_of_ble_eq_true rfl) ⟨by show _ ≤ 600104; omega, by show _ ≤ 7301314; omega⟩ (fun v162 => ?_)
                    refine G.aload_n E dL_law_797 2 rfl rfl ?_
                    refine G.iconst (v := 4) E dL_law_798 (by decide) ?_
                    refine G.ialdW (q0 := 58) (p0 := 0) (n := 6) s156 E dL_law_799 (wsL_at58 _ _ _) (fun v163 => ?_)
                    refine G.icmp_ne (tgt := 807) E dL_law_800 (by decide) ?_ ?_
                    · refine G.iconst (v := 1) E dL_law_803 (by decide) ?_
                      refine G.goto (tgt := 808) E dL_law_804 (by decide) ?_
                      refine G.widen (k1 := cb + 2198) (n1 := sb + 6594) (by omega) (by omega) ?_
                      refine G.loc [0, 1, 2, 3, 4, 5, 6, 7, 8, 9, 10, 11, 12, 13, 14, 15, 16] rfl ?_
                      exact hj808 1 s161
                    · refine G.widen (k1 := cb + 2198) (n1 := sb + 6594) (by omega) (by omega) ?_
                      refine G.loc [0, 1, 2, 3, 4, 5, 6, 7, 8, 9, 10, 11, 12, 13, 14, 15, 16] rfl ?_
                      exact hj807 s161
                  · refine G.widen (k1 := cb + 2198) (n1 := sb + 6594) (by omega) (by omega) ?_
                    refine G.loc [0, 1, 2, 3, 4, 5, 6, 7, 8, 9, 10, 11, 12, 13, 14, 15, 16] rfl ?_
                    exact hj807 s161
                · refine G.widen (k1 := cb + 2198) (n1 := sb + 6594) (by omega) (by omega) ?_
                  refine G.loc [0, 1, 2, 3, 4, 5, 6, 7, 8, 9, 10, 11, 12, 13, 14, 15, 16] rfl ?_
                  exact hj807 s140
          refine G.swIn (c0 := 7) (tgt := 813) E dL_law_147 (by decide) (by decide) rfl (by decide) ?_ (fun n7 => ?_)
          · refine G.aload_n E dL_law_813 1 rfl rfl ?_
            refine G.callWiW (mc := 1) (ms := 6) (rm := rm_L_undo) (n := 1) (As := [.ref (h 0)]) (fun x => (x, ν0)) E dL_law_814 (fun _ _ hv => c_L_undo E.wf hfl hv) gL_law_L_undo rfl rfl rfl (by decide +kernel) ⟨Nat.le_of_ble_eq_true rfl, Nat.le_of_ble_eq_true rfl⟩ rfl (Nat.le_of_ble_eq_true rfl) ⟨by show _ ≤ 600104; omega, by show _ ≤ 7301314; omega⟩ (fun v164 s165 => ?_)
            refine G.aload_n E dL_law_817 2 rfl rfl ?_
            refine G.iconst (v := 5) E dL_law_818 (by decide) ?_
            refine G.ialdW (q0 := 58) (p0 := 0) (n := 6) ν0 E dL_law_819 (wsL_at58 _ _ _) (fun v166 => ?_)
            refine G.jn (P := fun j => ∀ (v167 : Int32), G p l e room_1 s m #[Value.ref b] below meth c 40 (cb + 1) (sb + 6) D (wsL cy h) (adL h) (fun _ : Unit => lw_Z below #[Value.ref b] s) 834 [(0, .ref b), (1, .ref (h 0)), (2, .ref (h 58)), (3, .ref (h 59)), (4, .ref (h 60)), (5, .ref (h 61)), (6, .ref (h 62)), (7, .ref (h 63)), (8, .ref (h 64)), (9, .ref (h 65)), (10, .ref (h 66)), (11, .ref (h 67)), (12, .ref (h 68)), (13, .ref (h 69)), (14, .int x14), (15, .int x15), (16, .int v1)] [.int v167, .int v164] (s165, ν0) (j v167)) ?_ (fun j834 hj834 => ?_)
            · intro v167
              refine G.jn (P := fun j => ∀ (v168 : Int32), G p l e room_1 s m #[Value.ref b] below meth c 40 (cb + 1) (sb + 6) D (wsL cy h) (adL h) (fun _ : Unit => lw_Z below #[Value.ref b] s) 842 [(0, .ref b), (1, .ref (h 0)), (2, .ref (h 58)), (3, .ref (h 59)), (4, .ref (h 60)), (5, .ref (h 61)), (6, .ref (h 62)), (7, .ref (h 63)), (8, .ref (h 64)), (9, .ref (h 65)), (10, .ref (h 66)), (11, .ref (h 67)), (12, .ref (h 68)), (13, .ref (h 69)), (14, .int x14), (15, .int x15), (16, .int v1)] [.int v168] (s165, ν0) (j v168)) ?_ (fun j842 hj842 => ?_)
              · intro v168
                refine G.istore (lv' := [(19, .int v168), (0, .ref b), (1, .ref (h 0)), (2, .ref (h 58)), (3, .ref (h 59)), (4, .ref (h 60)), (5, .ref (h 61)), (6, .ref (h 62)), (7, .ref (h 63)), (8, .ref (h 64)), (9, .ref (h 65)), (10, .ref (h 66)), (11, .ref (h 67)), (12, .ref (h 68)), (13, .ref (h 69)), (14, .int x14), (15, .int x15), (16, .int v1)]) E dL_law_842 (by decide) rfl ?_
                refine G.aload_n E dL_law_844 3 rfl rfl ?_
                refine G.iconst (v := 5) E dL_law_845 (by decide) ?_
                refine G.ialdW (q0 := 58) (p0 := 0) (n := 6) ν0 E dL_law_846 (wsL_at58 _ _ _) (fun v169 => ?_)
                refine G.if_ne (tgt := 853) E dL_law_847 (by decide) ?_ ?_
                · refine G.goto (tgt := 1287) E dL_law_850 (by decide) ?_
                  refine G.widen (k1 := cb + 2198) (n1 := sb + 23927) (by omega) (by omega) ?_
                  refine G.loc [1, 2, 3, 4, 5, 6, 7, 8, 9, 10, 11, 12, 13, 14, 15, 16, 17, 0] rfl ?_
                  exact hj1287 x14 v168 s165 ν0
                · refine G.aload_n E dL_law_853 3 rfl rfl ?_
                  refine G.iconst (v := 5) E dL_law_854 (by decide) ?_
                  refine G.ialdW (q0 := 58) (p0 := 0) (n := 6) ν0 E dL_law_855 (wsL_at58 _ _ _) (fun v170 => ?_)
                  refine G.iconst (v := 1) E dL_law_856 (by decide) ?_
                  refine G.isub E dL_law_857 ?_
                  refine G.letI (fun v171 => ?_)
                  refine G.istore (lv' := [(31, .int v171), (19, .int v168), (0, .ref b), (1, .ref (h 0)), (2, .ref (h 58)), (3, .ref (h 59)), (4, .ref (h 60)), (5, .ref (h 61)), (6, .ref (h 62)), (7, .ref (h 63)), (8, .ref (h 64)), (9, .ref (h 65)), (10, .ref (h 66)), (11, .ref (h 67)), (12, .ref (h 68)), (13, .ref (h 69)), (14, .int x14), (15, .int x15), (16, .int v1)]) E dL_law_858 (by decide) rfl ?_
                  refine G.aload E dL_law_860 8 rfl ?_
                  refine G.aload_n E dL_law_862 4 rfl rfl ?_
                  refine G.callSvW (mc := 0) (ms := 0) (rm := rm_L_copies) (n := 2) (As := [.ref (h 62), .ref (h 58)]) (fun x => (s165, x)) E dL_law_863 (fun _ hv => Con.inN E.wf (c_L_copies_4_0 (wfL_N E.wf) hv)) gL_law_L_copies rfl rfl rfl (by decide +kernel) ⟨Nat.le_of_ble_eq_true rfl, Nat.le_of_ble_eq_true rfl⟩ rfl (Nat.le_of_ble_eq_true rfl) ⟨by show _ ≤ 600104; omega, by show _ ≤ 7301314; omega⟩ (fun s172 => ?_)
                  refine G.aload E dL_law_866 9 rfl ?_
                  refine G.aload_n E dL_law_868 5 rfl rfl ?_
                  refine G.callSvW (mc := 0) (ms := 0) (rm := rm_L_copies) (n := 2) (As := [.ref (h 63), .ref (h 59)]) (fun x => (s165, x)) E dL_law_869 (fun _ hv => Con.inN E.wf (c_L_copies_5_1 (wfL_N E.wf) hv)) gL_law_L_copies rfl rfl rfl (by decide +kernel) ⟨Nat.le_of_ble_eq_true rfl, Nat.le_of_ble_eq_true rfl⟩ rfl (Nat.le_of_ble_eq_true rfl) ⟨by show _ ≤ 600104; omega, by show _ ≤ 7301314; omega⟩ (fun s173 => ?_)
                  refine G.aload E dL_law_872 10 rfl ?_
                  refine G.aload E dL_law_874 6 rfl ?_
                  refine G.callSvW (mc := 0) (ms := 0) (rm := rm_L_copies) (n := 2) (As := [.ref (h 64), .ref (h 60)]) (fun x => (s165, x)) E dL_law_876 (fun _ hv => Con.inN E.wf (c_L_copies_6_2 (wfL_N E.wf) hv)) gL_law_L_copies rfl rfl rfl (by decide +kernel) ⟨Nat.le_of_ble_eq_true rfl, Nat.le_of_ble_eq_true rfl⟩ rfl (Nat.le_of_ble_eq_true rfl) ⟨by show _ ≤ 600104; omega, by show _ ≤ 7301314; omega⟩ (fun s174 => ?_)
                  refine G.aload E dL_law_879 11 rfl ?_
                  refine G.aload E dL_law_881 7 rfl ?_
                  refine G.callSvW (mc := 0) (ms := 0) (rm := rm_L_copies) (n := 2) (As := [.ref (h 65), .ref (h 61)]) (fun x => (s165, x)) E dL_law_883 (fun _ hv => Con.inN E.wf (c_L_copies_7_3 (wfL_N E.wf) hv)) gL_law_L_copies rfl rfl rfl (by decide +kernel) ⟨Nat.le_of_ble_eq_true rfl, Nat.le_of_ble_eq_true rfl⟩ rfl (Nat.le_of_ble_eq_true rfl) ⟨by show _ ≤ 600104; omega, by show _ ≤ 7301314; omega⟩ (fun s175 => ?_)
                  refine G.iconst (v := 0) E dL_law_886 (by decide) ?_
                  refine G.istore (lv' := [(32, .int 0), (31, .int v171), (19, .int v168), (0, .ref b), (1, .ref (h 0)), (2, .ref (h 58)), (3, .ref (h 59)), (4, .ref (h 60)), (5, .ref (h 61)), (6, .ref (h 62)), (7, .ref (h 63)), (8, .ref (h 64)), (9, .ref (h 65)), (10, .ref (h 66)), (11, .ref (h 67)), (12, .ref (h 68)), (13, .ref (h 69)), (14, .int x14), (15, .int x15), (16, .int v1)]) E dL_law_887 (by decide) rfl ?_
                  refine G.widen (k1 := cb + 1) (n1 := sb + 6) (by omega) (by omega) ?_
                  refine G.loc [3, 4, 5, 6, 7, 8, 9, 10, 11, 12, 13, 14, 15, 16, 17, 18, 19, 2, 1, 0] rfl ?_
                  refine gl_L_law_889 (cX := (cb + 49)) (sX := (sb + 150)) E hfl X0 hge (by omega) (by omega) (fun v183 s184 => ?_) 25 (cb + 1) (sb + 6) (by omega) (by omega) _ _ _
                  refine G.aload_n E dL_law_932 2 rfl rfl ?_
                  refine G.iconst (v := 5) E dL_law_933 (by decide) ?_
                  refine G.iload E dL_law_934 18 rfl ?_
                  refine G.iastW (q0 := 58) (p0 := 0) (n := 6) s184 (fun x => (s165, x)) E dL_law_936 (wsL_at58 _ _ _) (fun j => (wsL_set58 _ _ _ _ _ j)) (fun s185 => ?_)
                  refine G.goto (tgt := 1287) E dL_law_937 (by decide) ?_
                  refine G.widen (k1 := cb + 2198) (n1 := sb + 23927) (by omega) (by omega) ?_
                  refine G.loc [0, 1, 2, 3, 4, 5, 6, 7, 8, 9, 10, 11, 12, 13, 14, 15, 16, 17] rfl ?_
                  exact hj1287 x14 v183 s165 s185
              · refine G.icmp_ne (tgt := 841) E dL_law_834 (by decide) ?_ ?_
                · refine G.iconst (v := 1) E dL_law_837 (by decide) ?_
                  refine G.goto (tgt := 842) E dL_law_838 (by decide) ?_
                  refine G.widen (k1 := cb + 1) (n1 := sb + 6) (by omega) (by omega) ?_
                  refine G.loc [0, 1, 2, 3, 4, 5, 6, 7, 8, 9, 10, 11, 12, 13, 14, 15, 16] rfl ?_
                  exact hj842 1
                · refine G.iconst (v := 0) E dL_law_841 (by decide) ?_
                  refine G.widen (k1 := cb + 1) (n1 := sb + 6) (by omega) (by omega) ?_
                  refine G.loc [0, 1, 2, 3, 4, 5, 6, 7, 8, 9, 10, 11, 12, 13, 14, 15, 16] rfl ?_
                  exact hj842 0
            · refine G.if_ne (tgt := 829) E dL_law_820 (by decide) ?_ ?_
              · refine G.sipush (v := (-7300)) E dL_law_823 (by decide) ?_
                refine G.goto (tgt := 834) E dL_law_826 (by decide) ?_
                refine G.widen (k1 := cb + 1) (n1 := sb + 6) (by omega) (by omega) ?_
                refine G.loc [0, 1, 2, 3, 4, 5, 6, 7, 8, 9, 10, 11, 12, 13, 14, 15, 16] rfl ?_
                exact hj834 (-7300)
              · refine G.aload_n E dL_law_829 2 rfl rfl ?_
                refine G.iconst (v := 5) E dL_law_830 (by decide) ?_
                refine G.ialdW (q0 := 58) (p0 := 0) (n := 6) ν0 E dL_law_831 (wsL_at58 _ _ _) (fun v186 => ?_)
                refine G.iconst (v := 1) E dL_law_832 (by decide) ?_
                refine G.isub E dL_law_833 ?_
                refine G.widen (k1 := cb + 1) (n1 := sb + 6) (by omega) (by omega) ?_
                refine G.loc [0, 1, 2, 3, 4, 5, 6, 7, 8, 9, 10, 11, 12, 13, 14, 15, 16] rfl ?_
                exact hj834 (v186 - 1)
          refine G.swIn (c0 := 8) (tgt := 940) E dL_law_147 (by decide) (by decide) rfl (by decide) ?_ (fun n8 => ?_)
          · refine G.aload_n E dL_law_940 1 rfl rfl ?_
            refine G.callVvW (mc := 0) (ms := 0) (rm := rm_X7_mark) (n := 0) (T := TX7) (N := 7) (C := RX7) (a := h 0) (q0 := 0) (As := []) (fun x => (x, ν0)) E dL_law_941 (fun _ hv => Con.inC E.wf (c_X7_mark (wfL_C E.wf) hv)) gL_law_X7_mark rfl rfl rfl (by decide +kernel) ⟨Nat.le_of_ble_eq_true rfl, Nat.le_of_ble_eq_true rfl⟩ ((wsL_at0 _ _ _).trans (wsC_at0 _ _ _)) rfl rfl (Nat.le_of_ble_eq_true rfl) ⟨by show _ ≤ 600104; omega, by show _ ≤ 7301314; omega⟩ (fun s187 => ?_)
            refine G.aload_n E dL_law_944 2 rfl rfl ?_
            refine G.iconst (v := 1) E dL_law_945 (by decide) ?_
            refine G.ialdW (q0 := 58) (p0 := 0) (n := 6) ν0 E dL_law_946 (wsL_at58 _ _ _) (fun v188 => ?_)
            refine G.aload_n E dL_law_947 2 rfl rfl ?_
            refine G.iconst (v := 2) E dL_law_948 (by decide) ?_
            refine G.ialdW (q0 := 58) (p0 := 0) (n := 6) ν0 E dL_law_949 (wsL_at58 _ _ _) (fun v189 => ?_)
            refine G.iand E dL_law_950 ?_
            refine G.sipush (v := 128) E dL_law_951 (by decide) ?_
            refine G.ior E dL_law_954 ?_
            refine G.letI (fun v190 => ?_)
            refine G.istore (lv' := [(14, .int v190), (0, .ref b), (1, .ref (h 0)), (2, .ref (h 58)), (3, .ref (h 59)), (4, .ref (h 60)), (5, .ref (h 61)), (6, .ref (h 62)), (7, .ref (h 63)), (8, .ref (h 64)), (9, .ref (h 65)), (10, .ref (h 66)), (11, .ref (h 67)), (12, .ref (h 68)), (13, .ref (h 69)), (15, .int x15), (16, .int v1), (17, .int v2), (19, .int 1)]) E dL_law_955 (by decide) rfl ?_
            refine G.aload_n E dL_law_957 3 rfl rfl ?_
            refine G.aload_n E dL_law_958 4 rfl rfl ?_
            refine G.aload E dL_law_959 5 rfl ?_
            refine G.aload E dL_law_961 6 rfl ?_
            refine G.callSl (mc := 2) (ms := 71) (rm := rm_L_rest) (n := 4) (As := [.ref (h 58), .ref (h 59), .ref (h 60), .ref (h 61)]) E dL_law_963 (fun _ hv => Con.inN E.wf (c_L_rest (wfL_N E.wf) hv)) gL_law_L_rest rfl rfl rfl (by decide +kernel) ⟨Nat.le_of_ble_eq_true rfl, Nat.le_of_ble_eq_true rfl⟩ rfl (Nat.le_of_ble_eq_true rfl) ⟨by show _ ≤ 600104; omega, by show _ ≤ 7301314; omega⟩ (fun v191 => ?_)
            refine G.lstore (lv' := [(32, .long v191), (14, .int v190), (0, .ref b), (1, .ref (h 0)), (2, .ref (h 58)), (3, .ref (h 59)), (4, .ref (h 60)), (5, .ref (h 61)), (6, .ref (h 62)), (7, .ref (h 63)), (8, .ref (h 64)), (9, .ref (h 65)), (10, .ref (h 66)), (11, .ref (h 67)), (12, .ref (h 68)), (13, .ref (h 69)), (15, .int x15), (16, .int v1), (17, .int v2), (19, .int 1)]) E dL_law_966 (by decide) rfl ?_
            refine G.iconst (v := 0) E dL_law_968 (by decide) ?_
            refine G.istore (lv' := [(34, .int 0), (32, .long v191), (14, .int v190), (0, .ref b), (1, .ref (h 0)), (2, .ref (h 58)), (3, .ref (h 59)), (4, .ref (h 60)), (5, .ref (h 61)), (6, .ref (h 62)), (7, .ref (h 63)), (8, .ref (h 64)), (9, .ref (h 65)), (10, .ref (h 66)), (11, .ref (h 67)), (12, .ref (h 68)), (13, .ref (h 69)), (15, .int x15), (16, .int v1), (17, .int v2), (19, .int 1)]) E dL_law_969 (by decide) rfl ?_
            refine G.widen (k1 := cb + 2) (n1 := sb + 71) (by omega) (by omega) ?_
            refine G.loc [3, 4, 5, 6, 7, 8, 9, 10, 11, 12, 13, 14, 15, 16, 2, 17, 18, 20, 1, 0] rfl ?_
            refine gl_L_law_971 (cX := (cb + 674)) (sX := (sb + 23927)) E hfl X0 hge (by omega) (by omega) (fun s202 => ?_) 8 (cb + 2) (sb + 71) (by omega) (by omega) _ _
            refine G.goto (tgt := 1287) E dL_law_1101 (by decide) ?_
            refine G.widen (k1 := cb + 2198) (n1 := sb + 23927) (by omega) (by omega) ?_
            refine G.loc [0, 1, 2, 3, 4, 5, 6, 7, 8, 9, 10, 11, 12, 13, 14, 15, 16, 17] rfl ?_
            exact hj1287 v190 1 s187 s202
          refine G.swOut (tgt := 1104) E dL_law_147 (by have := lv_neT (a := 0) n0 (by decide); have := lv_neT (a := 1) n1 (by decide); have := lv_neT (a := 2) n2 (by decide); have := lv_neT (a := 3) n3 (by decide); have := lv_neT (a := 4) n4 (by decide); have := lv_neT (a := 5) n5 (by decide); have := lv_neT (a := 6) n6 (by decide); have := lv_neT (a := 7) n7 (by decide); have := lv_neT (a := 8) n8 (by decide); omega) (by decide) ?_
          refine G.iload E dL_law_1104 17 rfl ?_
          refine G.bipush (v := 6) E dL_law_1106 (by decide) ?_
          refine G.callSi (mc := 0) (ms := 0) (rm := rm_L_low) (n := 2) (As := [.int v2, .int 6]) E dL_law_1108 (fun _ hv => Con.inN E.wf (c_L_low (wfL_N E.wf) hv)) gL_law_L_low rfl rfl rfl (by decide +kernel) ⟨Nat.le_of_ble_eq_true rfl, Nat.le_of_ble_eq_true rfl⟩ rfl (Nat.le_of_ble_eq_true rfl) ⟨by show _ ≤ 600104; omega, by show _ ≤ 7301314; omega⟩ (fun v203 => ?_)
          refine G.istore (lv' := [(18, .int v203), (0, .ref b), (1, .ref (h 0)), (2, .ref (h 58)), (3, .ref (h 59)), (4, .ref (h 60)), (5, .ref (h 61)), (6, .ref (h 62)), (7, .ref (h 63)), (8, .ref (h 64)), (9, .ref (h 65)), (10, .ref (h 66)), (11, .ref (h 67)), (12, .ref (h 68)), (13, .ref (h 69)), (14, .int x14), (15, .int x15), (16, .int v1), (17, .int v2), (19, .int 1)]) E dL_law_1111 (by decide) rfl ?_
          refine G.iconst (v := 0) E dL_law_1113 (by decide) ?_
          refine G.istore (lv' := [(34, .int 0), (18, .int v203), (0, .ref b), (1, .ref (h 0)), (2, .ref (h 58)), (3, .ref (h 59)), (4, .ref (h 60)), (5, .ref (h 61)), (6, .ref (h 62)), (7, .ref (h 63)), (8, .ref (h 64)), (9, .ref (h 65)), (10, .ref (h 66)), (11, .ref (h 67)), (12, .ref (h 68)), (13, .ref (h 69)), (14, .int x14), (15, .int x15), (16, .int v1), (17, .int v2), (19, .int 1)]) E dL_law_1114 (by decide) rfl ?_
          refine G.iconst (v := 0) E dL_law_1116 (by decide) ?_
          refine G.istore (lv' := [(35, .int 0), (34, .int 0), (18, .int v203), (0, .ref b), (1, .ref (h 0)), (2, .ref (h 58)), (3, .ref (h 59)), (4, .ref (h 60)), (5, .ref (h 61)), (6, .ref (h 62)), (7, .ref (h 63)), (8, .ref (h 64)), (9, .ref (h 65)), (10, .ref (h 66)), (11, .ref (h 67)), (12, .ref (h 68)), (13, .ref (h 69)), (14, .int x14), (15, .int x15), (16, .int v1), (17, .int v2), (19, .int 1)]) E dL_law_1117 (by decide) rfl ?_
          refine G.widen (k1 := cb) (n1 := sb) (by omega) (by omega) ?_
          refine G.loc [3, 4, 5, 6, 7, 8, 9, 10, 11, 12, 13, 14, 15, 16, 17, 18, 19, 20, 2, 21, 1, 0] rfl ?_
          refine gl_L_law_1119 (cX := (cb + 100)) (sX := (sb + 480)) E hfl X0 hge (by omega) (by omega) (fun v222 s223 s224 => ?_) 21 cb sb (by omega) (by omega) _ _ _ _ _
          refine G.widen (k1 := cb + 2198) (n1 := sb + 23927) (by omega) (by omega) ?_
          refine G.loc [0, 1, 2, 3, 4, 5, 6, 7, 8, 9, 10, 11, 12, 13, 14, 15, 16, 17] rfl ?_
          exact hj1287 x14 v222 s223 s224
      · refine G.icmp_ge (tgt := 129) E dL_law_122 (by decide) ?_ ?_
        · refine G.iload E dL_law_129 19 rfl ?_
          refine G.bipush (v := 9) E dL_law_131 (by decide) ?_
          refine G.icmp_ge (tgt := 140) E dL_law_133 (by decide) ?_ ?_
          · refine G.iload E dL_law_140 3 rfl ?_
            refine G.bipush (v := 16) E dL_law_142 (by decide) ?_
            refine G.callSi (mc := 0) (ms := 0) (rm := rm_L_low) (n := 2) (As := [.int v1, .int 16]) E dL_law_144 (fun _ hv => Con.inN E.wf (c_L_low (wfL_N E.wf) hv)) gL_law_L_low rfl rfl rfl (by decide +kernel) ⟨Nat.le_of_ble_eq_true rfl, Nat.le_of_ble_eq_true rfl⟩ rfl (Nat.le_of_ble_eq_true rfl) ⟨by show _ ≤ 600104; omega, by show _ ≤ 7301314; omega⟩ (fun v225 => ?_)
            refine G.widen (k1 := cb) (n1 := sb) (by omega) (by omega) ?_
            refine G.loc [4, 5, 6, 7, 8, 9, 10, 11, 12, 13, 14, 15, 16, 17, 18, 19, 3, 2, 0] rfl ?_
            exact hj147 v225
          · refine G.iconst (v := 2) E dL_law_136 (by decide) ?_
            refine G.goto (tgt := 147) E dL_law_137 (by decide) ?_
            refine G.widen (k1 := cb) (n1 := sb) (by omega) (by omega) ?_
            refine G.loc [4, 5, 6, 7, 8, 9, 10, 11, 12, 13, 14, 15, 16, 17, 18, 19, 3, 2, 0] rfl ?_
            exact hj147 2
        · refine G.iconst (v := 0) E dL_law_125 (by decide) ?_
          refine G.goto (tgt := 147) E dL_law_126 (by decide) ?_
          refine G.widen (k1 := cb) (n1 := sb) (by omega) (by omega) ?_
          refine G.loc [4, 5, 6, 7, 8, 9, 10, 11, 12, 13, 14, 15, 16, 17, 18, 19, 3, 2, 0] rfl ?_
          exact hj147 0
end TR
