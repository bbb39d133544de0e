/-! THE LAW'S TURN, cut into pieces. -/
noncomputable def tnN (N : Nat) (L : Nat) (xs : Nat → Int32) (x14 x15 v1 v2 : Int32) (γ0 ν0 : Wd) (J : Int32 → Int32 → Wd → Wd → Option Unit) : Option Unit :=
  rI ν0 0 6 0 fun v27 =>
  if v27 = 7 then (
    J x14 1 γ0 ν0)
  else (
    rI ν0 0 6 0 fun v28 =>
    jn (fun (_u : Unit) => ((
      jn (fun (v29 : Int32) => ((
        bS (f_L_node N γ0 v29) fun v30 s31 =>
        rI ν0 0 6 0 fun v32 =>
        jn (fun (v33 : Int32) => ((
          rI ν0 0 6 1 fun v34 =>
          rI ν0 0 6 0 fun v35 =>
          aI ν0 0 6 1 (v34 ||| (1 <<< (v35 &&& 31))) fun s36 =>
          jn (fun (v37 : Int32) => ((
            aI s36 0 6 2 v37 fun s38 =>
            rI s38 0 6 0 fun v39 =>
            aI s38 9 7 v39 0 fun s40 =>
            rI s40 0 6 0 fun v41 =>
            aI s40 0 6 0 (v41 + 1) fun s42 =>
            aI s42 0 6 5 0 fun s43 =>
            J x14 v33 s31 s43) : Option (Unit))) fun j314 =>
          if v29 = 0 then (
            rI s36 0 6 2 fun v44 =>
            rI s36 0 6 0 fun v45 =>
            j314 (v44 &&& ((1 <<< (v45 &&& 31)) ^^^ (-1))))
          else (
            rI s36 0 6 2 fun v46 =>
            rI s36 0 6 0 fun v47 =>
            j314 (v46 ||| (1 <<< (v47 &&& 31))))) : Option (Unit))) fun j271 =>
        if v30 = v32 then (
          j271 1)
        else (
          j271 0)) : Option (Unit))) fun j252 =>
      jn (fun (_u : Unit) => ((
        j252 1) : Option (Unit))) fun j247 =>
      if x15 = 0 then (
        j247 ())
      else (
        if x15 = 3 then (
          j247 ())
        else (
          jn (fun (_u : Unit) => ((
            j252 0) : Option (Unit))) fun j251 =>
          if x15 ≤ 3 then (
            j251 ())
          else (
            if (v2 &&& 2) = 2 then (
              j247 ())
            else (
              j251 ()))))) : Option (Unit))) fun j222 =>
    if v28 = 6 then (
      if 40 ≤ x15 then (
        j222 ())
      else (
        J x14 1 γ0 ν0))
    else (
      j222 ()))
noncomputable def tnW (N : Nat) (L : Nat) (xs : Nat → Int32) (x14 x15 v1 v2 : Int32) (γ0 ν0 : Wd) (J : Int32 → Int32 → Wd → Wd → Option Unit) : Option Unit :=
  bP (f_L_low N v2 7) fun v48 =>
  bP (f_L_low N (v2 >>> (5 &&& 31)) 7) fun v49 =>
  jn (fun (v50 : Int32) => ((
    rI ν0 0 6 1 fun v51 =>
    jn (fun (v52 : Int32) => ((
      fl_L_law_432 N L xs γ0 ν0 x14 x15 v1 v48 v49 v50 v52 (fun v55 =>
        jn (fun (v56 : Int32) => ((
          bS (f_L_wire N γ0 v48 v49 v50) fun v57 s58 =>
          jn (fun (v59 : Int32) => ((
            jn (fun (v60 : Int32) => ((
              if v56 = 0 then (
                J x14 v60 s58 ν0)
              else (
                bS (f_L_adds N ν0 v48 v49 v50) fun v61 s62 =>
                aI s62 0 6 5 0 fun s63 =>
                J x14 v60 s58 s63)) : Option (Unit))) fun j528 =>
            if v57 = v59 then (
              j528 1)
            else (
              j528 0)) : Option (Unit))) fun j520 =>
          if v52 = 0 then (
            j520 (-7100))
          else (
            if v56 = 0 then (
              j520 (-7300))
            else (
              rI ν0 0 6 3 fun v64 =>
              j520 v64))) : Option (Unit))) fun j483 =>
        jn (fun (_u : Unit) => ((
          j483 0) : Option (Unit))) fun j482 =>
        if v52 = 0 then (
          j482 ())
        else (
          rI ν0 0 6 3 fun v65 =>
          if 20 ≤ v65 then (
            j482 ())
          else (
            if 12 ≤ v55 then (
              j482 ())
            else (
              j483 1)))) N 0 0) : Option (Unit))) fun j424 =>
    jn (fun (_u : Unit) => ((
      j424 0) : Option (Unit))) fun j423 =>
    if ((v51 >>> (v48 &&& 31)) &&& 1) = 1 then (
      rI ν0 0 6 1 fun v66 =>
      if ((v66 >>> (v49 &&& 31)) &&& 1) = 1 then (
        j424 1)
      else (
        j423 ()))
    else (
      j423 ())) : Option (Unit))) fun j393 =>
  if (v2 &&& 8) = 0 then (
    bP (f_L_low N (v2 >>> (9 &&& 31)) 60) fun v68 =>
    j393 (1 + v68))
  else (
    bP (f_L_low N (v2 >>> (9 &&& 31)) 6) fun v67 =>
    j393 (2 + (2 * v67)))
noncomputable def tnV (N : Nat) (L : Nat) (xs : Nat → Int32) (x14 x15 v1 v2 : Int32) (γ0 ν0 : Wd) (J : Int32 → Int32 → Wd → Wd → Option Unit) : Option Unit :=
  bP (f_L_low N v2 7) fun v126 =>
  rI ν0 0 6 1 fun v127 =>
  rI ν0 0 6 2 fun v128 =>
  jn (fun (v129 : Int32) => ((
    bP (f_L_low N (v2 >>> (4 &&& 31)) 199) fun v130 =>
    bS (f_L_value N γ0 v126 (v130 - 99)) fun v131 s132 =>
    jn (fun (v133 : Int32) => ((
      jn (fun (v134 : Int32) => ((
        jn (fun (v135 : Int32) => ((
          aI ν0 9 7 v126 v135 fun s136 =>
          J x14 v134 s132 s136) : Option (Unit))) fun j663 =>
        if v129 = 0 then (
          rI ν0 9 7 v126 fun v137 =>
          j663 v137)
        else (
          bP (f_L_low N (v2 >>> (4 &&& 31)) 199) fun v138 =>
          j663 (v138 - 99))) : Option (Unit))) fun j631 =>
      if v131 = v133 then (
        j631 1)
      else (
        j631 0)) : Option (Unit))) fun j623 =>
    if v129 = 0 then (
      j623 (-7100))
    else (
      j623 0)) : Option (Unit))) fun j590 =>
  if ((v127 &&& v128) &&& (1 <<< (v126 &&& 31))) ≤ 0 then (
    j590 0)
  else (
    j590 1)
noncomputable def tnS (N : Nat) (L : Nat) (xs : Nat → Int32) (x14 x15 v1 v2 : Int32) (γ0 ν0 : Wd) (J : Int32 → Int32 → Wd → Wd → Option Unit) : Option Unit :=
  bS (f_X7_simplify N γ0) fun v139 s140 =>
  fl_L_law_679 N L xs s140 x14 x15 v1 v139 (fun v155 s156 =>
    jn (fun (v157 : Int32) (s158 : Wd) => ((
      J x14 v157 s158 s156) : Option (Unit))) fun j808 =>
    jn (fun (s159 : Wd) => ((
      j808 0 s159) : Option (Unit))) fun j807 =>
    if v139 = v155 then (
      bS (f_X7_simplify N s140) fun v160 s161 =>
      if v160 = 0 then (
        bP (f_X7_wires N s161) fun v162 =>
        rI s156 0 6 4 fun v163 =>
        if v162 = v163 then (
          j808 1 s161)
        else (
          j807 s161))
      else (
        j807 s161))
    else (
      j807 s140)) 1100 0 0 ν0
noncomputable def tnU (N : Nat) (L : Nat) (xs : Nat → Int32) (x14 x15 v1 v2 : Int32) (γ0 ν0 : Wd) (J : Int32 → Int32 → Wd → Wd → Option Unit) : Option Unit :=
  bS (f_L_undo N γ0) fun v164 s165 =>
  rI ν0 0 6 5 fun v166 =>
  jn (fun (v167 : Int32) => ((
    jn (fun (v168 : Int32) => ((
      rI ν0 0 6 5 fun v169 =>
      if v169 = 0 then (
        J x14 v168 s165 ν0)
      else (
        rI ν0 0 6 5 fun v170 =>
        lI (v170 - 1) fun v171 =>
        bP (f_L_copies_4_0 N ν0) fun s172 =>
        bP (f_L_copies_5_1 N s172) fun s173 =>
        bP (f_L_copies_6_2 N s173) fun s174 =>
        bP (f_L_copies_7_3 N s174) fun s175 =>
        fl_L_law_889 N L xs s165 x14 x15 v1 v171 (fun v183 s184 =>
          aI s184 0 6 5 v171 fun s185 =>
          J x14 v183 s165 s185) 25 v168 0 s175)) : Option (Unit))) fun j842 =>
    if v164 = v167 then (
      j842 1)
    else (
      j842 0)) : Option (Unit))) fun j834 =>
  if v166 = 0 then (
    j834 (-7300))
  else (
    rI ν0 0 6 5 fun v186 =>
    j834 (v186 - 1))
noncomputable def tnM (N : Nat) (L : Nat) (xs : Nat → Int32) (x14 x15 v1 v2 : Int32) (γ0 ν0 : Wd) (J : Int32 → Int32 → Wd → Wd → Option Unit) : Option Unit :=
  bP (f_X7_mark N γ0) fun s187 =>
  rI ν0 0 6 1 fun v188 =>
  rI ν0 0 6 2 fun v189 =>
  lI ((v188 &&& v189) ||| 128) fun v190 =>
  bP (f_L_rest N ν0) fun v191 =>
  fl_L_law_971 N L xs s187 v190 x15 v1 1 v191 (fun s202 =>
    J v190 1 s187 s202) 8 0 ν0
noncomputable def tnD (N : Nat) (L : Nat) (xs : Nat → Int32) (x14 x15 v1 v2 : Int32) (γ0 ν0 : Wd) (J : Int32 → Int32 → Wd → Wd → Option Unit) : Option Unit :=
  bP (f_L_low N v2 6) fun v203 =>
  fl_L_law_1119 N L xs x14 x15 v1 v2 v203 (fun v222 s223 s224 =>
    J x14 v222 s223 s224) 21 1 0 0 γ0 ν0
/-- behind the turn -/
noncomputable def tnT (N : Nat) (L : Nat) (xs : Nat → Int32) (x15 v1 : Int32) (K : Wd → Wd → Option Unit) (n : Nat) (v4 v5 : Int32) (s6 s7 : Wd) : Option Unit :=
  rI s7 0 6 5 fun v8 =>
  jn (fun (s9 : Wd) => ((
    bP (f_L_rest N s9) fun v10 =>
    fl_L_law_1336 N L xs s6 s9 v4 x15 v1 v5 v10 (fun v18 =>
      if v5 = 0 then (
        none)
      else (
        bS (f_X7_keeps N s6) fun v19 s20 =>
        if v19 = v18 then (
          bS (f_L_isTold N s20 s9 v1) fun v21 s22 =>
          if v21 = 0 then (
            none)
          else (
            fl_L_law_84 N L xs K n v4 (x15 + 1) s22 s9))
        else (
          none))) 8 1 0) : Option (Unit))) fun j1319 =>
  if v8 = 0 then (
    bP (f_L_copies_0_4 N s7) fun s23 =>
    bP (f_L_copies_1_5 N s23) fun s24 =>
    bP (f_L_copies_2_6 N s24) fun s25 =>
    bP (f_L_copies_3_7 N s25) fun s26 =>
    j1319 s26)
  else (
    j1319 s7)
/-- by the kind -/
noncomputable def tnK (N : Nat) (L : Nat) (xs : Nat → Int32) (x14 x15 v1 v2 : Int32) (γ0 ν0 : Wd) (v3 : Int32) (J : Int32 → Int32 → Wd → Wd → Option Unit) : Option Unit :=
  if v3 = 0 then tnN N L xs x14 x15 v1 v2 γ0 ν0 J
  else if v3 = 1 then tnW N L xs x14 x15 v1 v2 γ0 ν0 J
  else if v3 = 2 then tnW N L xs x14 x15 v1 v2 γ0 ν0 J
  else if v3 = 3 then tnW N L xs x14 x15 v1 v2 γ0 ν0 J
  else if v3 = 4 then tnW N L xs x14 x15 v1 v2 γ0 ν0 J
  else if v3 = 5 then tnV N L xs x14 x15 v1 v2 γ0 ν0 J
  else if v3 = 6 then tnS N L xs x14 x15 v1 v2 γ0 ν0 J
  else if v3 = 7 then tnU N L xs x14 x15 v1 v2 γ0 ν0 J
  else if v3 = 8 then tnM N L xs x14 x15 v1 v2 γ0 ν0 J
  else tnD N L xs x14 x15 v1 v2 γ0 ν0 J
theorem jn_p {β ρ : Type} (J : β) (B : β → Option ρ) : jn J B = B J := by
  unfold jn
  exact Eq.trans rfl rfl
set_option maxRecDepth 100000 in
theorem law84_eq0 {N L : Nat} {xs : Nat → Int32} {K : Wd → Wd → Option Unit} {n : Nat} {x14 x15 : Int32} {γ0 ν0 : Wd} : fl_L_law_84 N L xs K (n + 1) x14 x15 γ0 ν0 = if 60 ≤ x15 then K γ0 ν0 else ck n (bP (f_L_cell N L xs (2 * x15)) fun v1 => bP (f_L_cell N L xs ((2 * x15) + 1)) fun v2 => jn (fun (v3 : Int32) => (jn (fun v4 v5 s6 s7 => tnT N L xs x15 v1 K n v4 v5 s6 s7) fun J => tnK N L xs x14 x15 v1 v2 γ0 ν0 v3 J)) fun j147 => if 4 ≤ x15 then (if 9 ≤ x15 then (bP (f_L_low N v1 16) fun v225 => j147 v225) else j147 2) else j147 0) := by
  unfold tnK tnN tnW tnV tnS tnU tnM tnD tnT
  rw [fl_L_law_84]
theorem law84_eq {N L : Nat} {xs : Nat → Int32} {K : Wd → Wd → Option Unit} {n : Nat} {x14 x15 : Int32} {γ0 ν0 : Wd} : fl_L_law_84 N L xs K (n + 1) x14 x15 γ0 ν0 = if 60 ≤ x15 then K γ0 ν0 else ck n (bP (f_L_cell N L xs (2 * x15)) fun v1 => bP (f_L_cell N L xs ((2 * x15) + 1)) fun v2 => if 4 ≤ x15 then (if 9 ≤ x15 then (bP (f_L_low N v1 16) fun v225 => tnK N L xs x14 x15 v1 v2 γ0 ν0 v225 (fun v4 v5 s6 s7 => tnT N L xs x15 v1 K n v4 v5 s6 s7)) else tnK N L xs x14 x15 v1 v2 γ0 ν0 2 (fun v4 v5 s6 s7 => tnT N L xs x15 v1 K n v4 v5 s6 s7)) else tnK N L xs x14 x15 v1 v2 γ0 ν0 0 (fun v4 v5 s6 s7 => tnT N L xs x15 v1 K n v4 v5 s6 s7)) := by
  rw [law84_eq0]
  simp only [jn_p]
