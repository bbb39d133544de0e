/-! THE LAW'S LOOK AT ALL, cut into pieces. -/
noncomputable def tdZ (N : Nat) (ν : Wd) (v26 v27 : Int32) (v1 v3 : Int64) (s35 : Wd) : Option (Int32 × Wd) :=
  bS (f_L_areValues N s35 ν v26 v1) fun v36 s37 =>
  if v36 = 0 then (
    some (0, s37))
  else (
    bS (f_L_isStarred N s37 ν v27 v3 v1) fun v38 s39 =>
    if v38 = 0 then (
      some (0, s39))
    else (
      some (1, s39)))
noncomputable def tdM (N : Nat) (ν : Wd) (v26 v27 v28 : Int32) (v1 v3 : Int64) (s32 : Wd) (v34 : Int32) : Option (Int32 × Wd) :=
  jn (fun (s35 : Wd) => ((
    tdZ N ν v26 v27 v1 v3 s35) : Option (Int32 × Wd))) fun j628 =>
  if v34 = 0 then (
    bS (f_L_distance N s32 v26 v27 1) fun v40 s41 =>
    if (lg_cmp v40 (-9200000000000000001)) = 0 then (
      bS (f_L_chance N s41 v26 v27 v27 1) fun v42 s43 =>
      if (lg_cmp v42 (-9200000000000000001)) = 0 then (
        j628 s43)
      else (
        some (0, s43)))
    else (
      some (0, s41)))
  else (
    rI ν 0 6 1 fun v44 =>
    bP (f_L_minor N ν (v44 &&& (((1 <<< (v26 &&& 31)) ||| (1 <<< (v27 &&& 31))) ^^^ (-1))) (-1) (-1)) fun v45 =>
    bS (f_L_distance N s32 v26 v27 0) fun v46 s47 =>
    bS (f_L_distance N s47 v26 v27 1) fun v48 s49 =>
    jn (fun (v50 : Int64) => ((
      jn (fun (v51 : Int64) => ((
        bP (f_L_is N v46 v48 v50 v51) fun v52 =>
        if v52 = 0 then (
          some (0, s49))
        else (
          jn (fun (s53 : Wd) => ((
            j628 s53) : Option (Int32 × Wd))) fun j589 =>
          if v26 = v27 then (
            j589 s49)
          else (
            rI ν 0 6 1 fun v54 =>
            if ((v54 >>> (v28 &&& 31)) &&& 1) = 1 then (
              jn (fun (v55 : Int64) => ((
                bS (f_L_chance N s49 v28 v26 v27 0) fun v56 s57 =>
                bS (f_L_chance N s57 v28 v26 v27 1) fun v58 s59 =>
                bP (f_L_is N v56 v58 v55 v45) fun v60 =>
                if v60 = 0 then (
                  some (0, s59))
                else (
                  j589 s59)) : Option (Int32 × Wd))) fun j553 =>
              if v28 = v26 then (
                j553 v45)
              else (
                if v28 = v27 then (
                  j553 0)
                else (
                  rI ν 0 6 1 fun v61 =>
                  bP (f_L_minor N ν (v61 &&& (((1 <<< (v26 &&& 31)) ||| (1 <<< (v27 &&& 31))) ^^^ (-1))) v28 v26) fun v62 =>
                  j553 v62)))
            else (
              j589 s49)))) : Option (Int32 × Wd))) fun j474 =>
      if v26 = v27 then (
        j474 1)
      else (
        j474 v3)) : Option (Int32 × Wd))) fun j461 =>
    if v26 = v27 then (
      j461 0)
    else (
      j461 v45))
noncomputable def tdN (N : Nat) (ν : Wd) (v26 v27 v28 : Int32) (v1 v3 : Int64) (s32 : Wd) : Option (Int32 × Wd) :=
  rI ν 0 6 1 fun v33 =>
  jn (fun (v34 : Int32) => ((
    tdM N ν v26 v27 v28 v1 v3 s32 v34) : Option (Int32 × Wd))) fun j394 =>
  jn (fun (_u : Unit) => ((
    j394 0) : Option (Int32 × Wd))) fun j393 =>
  if ((v33 >>> (v26 &&& 31)) &&& 1) = 1 then (
    rI ν 0 6 1 fun v63 =>
    if ((v63 >>> (v27 &&& 31)) &&& 1) = 1 then (
      j394 1)
    else (
      j393 ()))
  else (
    j393 ())
noncomputable def tdA (N : Nat) (ν : Wd) (v26 v27 v28 : Int32) (v1 v3 : Int64) (s24 : Wd) (v31 : Int32) : Option (Int32 × Wd) :=
  jn (fun (s32 : Wd) => ((
    tdN N ν v26 v27 v28 v1 v3 s32) : Option (Int32 × Wd))) fun j365 =>
  if v31 = 0 then (
    bS (f_L_answer N s24 v26 v27 1) fun v72 s73 =>
    if (lg_cmp v72 (-9200000000000000001)) = 0 then (
      j365 s73)
    else (
      some (0, s73)))
  else (
    if v26 = v27 then (
      bS (f_L_answer N s24 v26 v27 1) fun v70 s71 =>
      if (lg_cmp v70 (-9200000000000000002)) = 0 then (
        j365 s71)
      else (
        some (0, s71)))
    else (
      bS (f_L_answer N s24 v26 v27 0) fun v64 s65 =>
      bS (f_L_answer N s65 v26 v27 1) fun v66 s67 =>
      bP (f_L_pair N ν v26 v27) fun v68 =>
      bP (f_L_is N v64 v66 v68 v1) fun v69 =>
      if v69 = 0 then (
        some (0, s67))
      else (
        j365 s67)))
noncomputable def tdE (N : Nat) (ν : Wd) (a1 : Int32) (v1 v3 : Int64) (s24 : Wd) : Option (Int32 × Wd) :=
  bP (f_L_low N (a1 >>> (2 &&& 31)) 7) fun v26 =>
  bP (f_L_low N (a1 >>> (6 &&& 31)) 7) fun v27 =>
  bP (f_L_low N (a1 >>> (10 &&& 31)) 7) fun v28 =>
  rI ν 0 6 1 fun v29 =>
  rI ν 0 6 2 fun v30 =>
  jn (fun (v31 : Int32) => ((
    tdA N ν v26 v27 v28 v1 v3 s24 v31) : Option (Int32 × Wd))) fun j271 =>
  jn (fun (_u : Unit) => ((
    j271 0) : Option (Int32 × Wd))) fun j270 =>
  if ((v29 &&& v30) &&& (1 <<< (v26 &&& 31))) ≤ 0 then (
    j270 ())
  else (
    rI ν 0 6 1 fun v74 =>
    rI ν 0 6 2 fun v75 =>
    if ((v74 &&& v75) &&& (1 <<< (v27 &&& 31))) ≤ 0 then (
      j270 ())
    else (
      j271 1))
noncomputable def tdW2 (N : Nat) (ν : Wd) (a1 : Int32) (v1 v3 : Int64) (v23 : Int32) (s24 : Wd) (v25 : Int32) : Option (Int32 × Wd) :=
  if v23 = v25 then (
    tdE N ν a1 v1 v3 s24)
  else (
    some (0, s24))
noncomputable def tdW1 (N : Nat) (ν : Wd) (a1 v14 v16 : Int32) (v1 v3 : Int64) (v20 : Int32) (s21 : Wd) (v22 : Int32) : Option (Int32 × Wd) :=
  if v20 = v22 then (
    bS (f_L_wireIs N s21 v14 2) fun v23 s24 =>
    jn (fun (v25 : Int32) => ((
      tdW2 N ν a1 v1 v3 v23 s24 v25) : Option (Int32 × Wd))) fun j199 =>
    if v16 = 0 then (
      j199 (-7100))
    else (
      rI ν 3 20 v14 fun v76 =>
      j199 v76))
  else (
    some (0, s21))
noncomputable def tdW0 (N : Nat) (ν : Wd) (a1 v14 v16 : Int32) (v1 v3 : Int64) (v17 : Int32) (s18 : Wd) (v19 : Int32) : Option (Int32 × Wd) :=
  if v17 = v19 then (
    bS (f_L_wireIs N s18 v14 1) fun v20 s21 =>
    jn (fun (v22 : Int32) => ((
      tdW1 N ν a1 v14 v16 v1 v3 v20 s21 v22) : Option (Int32 × Wd))) fun j173 =>
    if v16 = 0 then (
      j173 (-7100))
    else (
      rI ν 2 20 v14 fun v77 =>
      j173 v77))
  else (
    some (0, s18))
noncomputable def tdW (N : Nat) (ν : Wd) (a1 v14 : Int32) (v1 v3 : Int64) (s13 : Wd) (v16 : Int32) : Option (Int32 × Wd) :=
  bS (f_L_wireIs N s13 v14 0) fun v17 s18 =>
  jn (fun (v19 : Int32) => ((
    tdW0 N ν a1 v14 v16 v1 v3 v17 s18 v19) : Option (Int32 × Wd))) fun j147 =>
  if v16 = 0 then (
    j147 (-7100))
  else (
    rI ν 1 20 v14 fun v78 =>
    j147 v78)
noncomputable def tdB (N : Nat) (γ ν : Wd) (a1 : Int32) (v1 v3 : Int64) : Option (Int32 × Wd) :=
  bP (f_X7_nodes N γ) fun v4 =>
  rI ν 0 6 1 fun v5 =>
  if v4 = v5 then (
    bP (f_X7_wires N γ) fun v6 =>
    rI ν 0 6 4 fun v7 =>
    if v6 = v7 then (
      bS (f_X7_rest N γ) fun v8 s9 =>
      if (lg_cmp v8 v1) = 0 then (
        bS (f_X7_trees N s9) fun v10 s11 =>
        if (lg_cmp v10 v3) = 0 then (
          bS (f_X7_treesAnew N s11) fun v12 s13 =>
          if (lg_cmp v12 v3) = 0 then (
            bP (f_L_low N a1 20) fun v14 =>
            rI ν 0 6 4 fun v15 =>
            jn (fun (v16 : Int32) => ((
              tdW N ν a1 v14 v1 v3 s13 v16) : Option (Int32 × Wd))) fun j122 =>
            if ((v15 >>> (v14 &&& 31)) &&& 1) = 1 then (
              j122 1)
            else (
              j122 0))
          else (
            some (0, s13)))
        else (
          some (0, s11)))
      else (
        some (0, s9)))
    else (
      some (0, γ)))
  else (
    some (0, γ))
set_option maxRecDepth 100000 in
theorem told_eq {N : Nat} {γ ν : Wd} {a1 : Int32} : f_L_isTold N γ ν a1 = (
  bP (f_L_rest N ν) fun v1 =>
  rI ν 0 6 1 fun v2 =>
  jn (fun (v3 : Int64) => ((
    tdB N γ ν a1 v1 v3) : Option (Int32 × Wd))) fun j43 =>
  if v2 = 0 then (
    j43 0)
  else (
    rI ν 0 6 1 fun v79 =>
    rI ν 0 6 1 fun v80 =>
    bP (f_L_minor N ν (v79 &&& (v80 - 1)) (-1) (-1)) fun v81 =>
    j43 v81)) := by
  unfold tdB tdW tdW0 tdW1 tdW2 tdE tdA tdN tdM tdZ
  rw [f_L_isTold]
