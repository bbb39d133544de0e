section TR
variable {p : Program} {l : Launch} {e : Env} {s : State} {m : MethodId} {args : Array Value} {below : List Frame} {meth : Method} {c : Code} {D : va_G} {cy : Nat → ClassId} {h : Nat → Nat}

noncomputable def fl_L_law (N L : Nat) (xs : Nat → Int32) : Nat → Int32 → W3 → Option Unit
  | 0, _, _ => none
  | n + 1, x4, s0 =>
    if ((Int32.ofNat L) - 5) < x4 then (
      some ())
    else (
      sG L xs x4 fun v1 =>
      jn (fun (s2 : W3) => ((
        fl_L_law N L xs n (x4 + 5) s2) : Option (Unit))) fun j1309 =>
      if (v1 &&& 31) = 0 then (
        sG L xs (x4 + 1) fun v3 =>
        jn (fun (v4 : Int32) => ((
          bS (f_L_node N s0 v4) fun v5 s6 =>
          sG L xs (x4 + 1) fun v7 =>
          jn (fun (v8 : Int32) => ((
            bS (liM s6 (f_X8_node N s6.2.1 v8)) fun v10 s9 =>
            bP (f_X8_thrown N s9.2.1) fun v11 =>
            if v11 = v5 then (
              jn (fun (_u : Unit) => ((
                j1309 s9) : Option (Unit))) fun j213 =>
              if v5 = 0 then (
                oG s9.2.2 0 fun v12 =>
                if (lg_cmp v12 (Int32.toInt64 v10)) = 0 then (
                  j213 ())
                else (
                  none))
              else (
                j213 ()))
            else (
              none)) : Option (Unit))) fun j180 =>
          if v7 = 0 then (
            j180 0)
          else (
            j180 1)) : Option (Unit))) fun j159 =>
        if v3 = 0 then (
          j159 0)
        else (
          j159 1))
      else if (v1 &&& 31) = 1 then (
        sG L xs (x4 + 1) fun v13 =>
        sG L xs (x4 + 2) fun v14 =>
        sG L xs (x4 + 3) fun v15 =>
        bS (f_L_wire N s0 v13 v14 v15) fun v16 s17 =>
        sG L xs (x4 + 1) fun v18 =>
        sG L xs (x4 + 2) fun v19 =>
        sG L xs (x4 + 3) fun v20 =>
        bS (liM s17 (f_X8_wire N s17.2.1 v18 v19 v20)) fun v22 s21 =>
        bP (f_X8_thrown N s21.2.1) fun v23 =>
        if v23 = v16 then (
          jn (fun (_u : Unit) => ((
            j1309 s21) : Option (Unit))) fun j293 =>
          if v16 = 0 then (
            oG s21.2.2 0 fun v24 =>
            if (lg_cmp v24 (Int32.toInt64 v22)) = 0 then (
              j293 ())
            else (
              none))
          else (
            j293 ()))
        else (
          none))
      else if (v1 &&& 31) = 2 then (
        sG L xs (x4 + 1) fun v25 =>
        sG L xs (x4 + 2) fun v26 =>
        bS (f_L_wireIs N s0 v25 v26) fun v27 s28 =>
        sG L xs (x4 + 1) fun v29 =>
        sG L xs (x4 + 2) fun v30 =>
        bS (liM s28 (f_X8_wireIs N s28.2.1 v29 v30)) fun v32 s31 =>
        bP (f_X8_thrown N s31.2.1) fun v33 =>
        if v33 = v27 then (
          jn (fun (_u : Unit) => ((
            j1309 s31) : Option (Unit))) fun j361 =>
          if v27 = 0 then (
            oG s31.2.2 0 fun v34 =>
            if (lg_cmp v34 (Int32.toInt64 v32)) = 0 then (
              j361 ())
            else (
              none))
          else (
            j361 ()))
        else (
          none))
      else if (v1 &&& 31) = 3 then (
        bP (f_X7_nodes N s0.1) fun v35 =>
        bS (liM s0 (f_X8_nodes N s0.2.1)) fun v37 s36 =>
        if v35 = v37 then (
          j1309 s36)
        else (
          none))
      else if (v1 &&& 31) = 4 then (
        bP (f_X7_wires N s0.1) fun v38 =>
        bS (liM s0 (f_X8_wires N s0.2.1)) fun v40 s39 =>
        if v38 = v40 then (
          j1309 s39)
        else (
          none))
      else if (v1 &&& 31) = 5 then (
        bS (liC s0 (f_X7_trees N s0.1)) fun v42 s41 =>
        bS (liM s41 (f_X8_trees N s41.2.1)) fun v44 s43 =>
        if (lg_cmp v42 v44) = 0 then (
          j1309 s43)
        else (
          none))
      else if (v1 &&& 31) = 6 then (
        bS (liC s0 (f_X7_treesAnew N s0.1)) fun v46 s45 =>
        bS (liM s45 (f_X8_treesAnew N s45.2.1)) fun v48 s47 =>
        if (lg_cmp v46 v48) = 0 then (
          j1309 s47)
        else (
          none))
      else if (v1 &&& 31) = 7 then (
        sG L xs (x4 + 1) fun v49 =>
        bS (f_L_tree N s0 v49) fun v50 s51 =>
        sG L xs (x4 + 1) fun v52 =>
        bS (liM s51 (f_X8_tree N s51.2.1 v52)) fun v54 s53 =>
        bP (f_X8_thrown N s53.2.1) fun v55 =>
        if v55 = v50 then (
          jn (fun (_u : Unit) => ((
            j1309 s53) : Option (Unit))) fun j471 =>
          if v50 = 0 then (
            oG s53.2.2 0 fun v56 =>
            if (lg_cmp v56 (Int32.toInt64 v54)) = 0 then (
              j471 ())
            else (
              none))
          else (
            j471 ()))
        else (
          none))
      else if (v1 &&& 31) = 8 then (
        bS (liC s0 (f_X7_rest N s0.1)) fun v58 s57 =>
        bS (liM s57 (f_X8_rest N s57.2.1)) fun v60 s59 =>
        if (lg_cmp v58 v60) = 0 then (
          j1309 s59)
        else (
          none))
      else if (v1 &&& 31) = 9 then (
        sG L xs (x4 + 1) fun v61 =>
        sG L xs (x4 + 2) fun v62 =>
        sG L xs (x4 + 3) fun v63 =>
        jn (fun (v64 : Int32) => ((
          bS (f_L_answer N s0 v61 v62 v64) fun v65 s66 =>
          sG L xs (x4 + 1) fun v67 =>
          sG L xs (x4 + 2) fun v68 =>
          sG L xs (x4 + 3) fun v69 =>
          jn (fun (v70 : Int32) => ((
            bS (liM s66 (f_X8_answer N s66.2.1 v67 v68 v70)) fun v72 s71 =>
            bP (f_X8_thrown N s71.2.1) fun v73 =>
            if v73 = v65 then (
              jn (fun (_u : Unit) => ((
                j1309 s71) : Option (Unit))) fun j580 =>
              if v65 = 0 then (
                oG s71.2.2 0 fun v74 =>
                if (lg_cmp v74 v72) = 0 then (
                  j580 ())
                else (
                  none))
              else (
                j580 ()))
            else (
              none)) : Option (Unit))) fun j548 =>
          if v69 = 0 then (
            j548 0)
          else (
            j548 1)) : Option (Unit))) fun j515 =>
        if v63 = 0 then (
          j515 0)
        else (
          j515 1))
      else if (v1 &&& 31) = 10 then (
        sG L xs (x4 + 1) fun v75 =>
        sG L xs (x4 + 2) fun v76 =>
        bS (f_L_value N s0 v75 v76) fun v77 s78 =>
        sG L xs (x4 + 1) fun v79 =>
        sG L xs (x4 + 2) fun v80 =>
        bP (lvM s78 (f_X8_value N s78.2.1 v79 v80)) fun s81 =>
        bP (f_X8_thrown N s81.2.1) fun v82 =>
        if v82 = v77 then (
          j1309 s81)
        else (
          none))
      else if (v1 &&& 31) = 11 then (
        sG L xs (x4 + 1) fun v83 =>
        sG L xs (x4 + 2) fun v84 =>
        jn (fun (v85 : Int32) => ((
          bS (f_L_potential N s0 v83 v85) fun v86 s87 =>
          sG L xs (x4 + 1) fun v88 =>
          sG L xs (x4 + 2) fun v89 =>
          jn (fun (v90 : Int32) => ((
            bS (liM s87 (f_X8_potential N s87.2.1 v88 v90)) fun v92 s91 =>
            bP (f_X8_thrown N s91.2.1) fun v93 =>
            if v93 = v86 then (
              jn (fun (_u : Unit) => ((
                j1309 s91) : Option (Unit))) fun j711 =>
              if v86 = 0 then (
                oG s91.2.2 0 fun v94 =>
                if (lg_cmp v94 v92) = 0 then (
                  j711 ())
                else (
                  none))
              else (
                j711 ()))
            else (
              none)) : Option (Unit))) fun j679 =>
          if v89 = 0 then (
            j679 0)
          else (
            j679 1)) : Option (Unit))) fun j652 =>
        if v84 = 0 then (
          j652 0)
        else (
          j652 1))
      else if (v1 &&& 31) = 12 then (
        sG L xs (x4 + 1) fun v95 =>
        sG L xs (x4 + 2) fun v96 =>
        jn (fun (v97 : Int32) => ((
          bS (f_L_current N s0 v95 v97) fun v98 s99 =>
          sG L xs (x4 + 1) fun v100 =>
          sG L xs (x4 + 2) fun v101 =>
          jn (fun (v102 : Int32) => ((
            bS (liM s99 (f_X8_current N s99.2.1 v100 v102)) fun v104 s103 =>
            bP (f_X8_thrown N s103.2.1) fun v105 =>
            if v105 = v98 then (
              jn (fun (_u : Unit) => ((
                j1309 s103) : Option (Unit))) fun j794 =>
              if v98 = 0 then (
                oG s103.2.2 0 fun v106 =>
                if (lg_cmp v106 v104) = 0 then (
                  j794 ())
                else (
                  none))
              else (
                j794 ()))
            else (
              none)) : Option (Unit))) fun j762 =>
          if v101 = 0 then (
            j762 0)
          else (
            j762 1)) : Option (Unit))) fun j735 =>
        if v96 = 0 then (
          j735 0)
        else (
          j735 1))
      else if (v1 &&& 31) = 13 then (
        sG L xs (x4 + 1) fun v107 =>
        jn (fun (v108 : Int32) => ((
          bS (liC s0 (f_X7_power N s0.1 v108)) fun v110 s109 =>
          sG L xs (x4 + 1) fun v111 =>
          jn (fun (v112 : Int32) => ((
            bS (liM s109 (f_X8_power N s109.2.1 v112)) fun v114 s113 =>
            if (lg_cmp v110 v114) = 0 then (
              j1309 s113)
            else (
              none)) : Option (Unit))) fun j830 =>
          if v111 = 0 then (
            j830 0)
          else (
            j830 1)) : Option (Unit))) fun j812 =>
        if v107 = 0 then (
          j812 0)
        else (
          j812 1))
      else if (v1 &&& 31) = 14 then (
        sG L xs (x4 + 1) fun v115 =>
        sG L xs (x4 + 2) fun v116 =>
        sG L xs (x4 + 3) fun v117 =>
        jn (fun (v118 : Int32) => ((
          bS (f_L_distance N s0 v115 v116 v118) fun v119 s120 =>
          sG L xs (x4 + 1) fun v121 =>
          sG L xs (x4 + 2) fun v122 =>
          sG L xs (x4 + 3) fun v123 =>
          jn (fun (v124 : Int32) => ((
            bS (liM s120 (f_X8_distance N s120.2.1 v121 v122 v124)) fun v126 s125 =>
            bP (f_X8_thrown N s125.2.1) fun v127 =>
            if v127 = v119 then (
              jn (fun (_u : Unit) => ((
                j1309 s125) : Option (Unit))) fun j931 =>
              if v119 = 0 then (
                oG s125.2.2 0 fun v128 =>
                if (lg_cmp v128 v126) = 0 then (
                  j931 ())
                else (
                  none))
              else (
                j931 ()))
            else (
              none)) : Option (Unit))) fun j899 =>
          if v123 = 0 then (
            j899 0)
          else (
            j899 1)) : Option (Unit))) fun j866 =>
        if v117 = 0 then (
          j866 0)
        else (
          j866 1))
      else if (v1 &&& 31) = 15 then (
        sG L xs (x4 + 1) fun v129 =>
        sG L xs (x4 + 2) fun v130 =>
        sG L xs (x4 + 3) fun v131 =>
        sG L xs (x4 + 4) fun v132 =>
        jn (fun (v133 : Int32) => ((
          bS (f_L_chance N s0 v129 v130 v131 v133) fun v134 s135 =>
          sG L xs (x4 + 1) fun v136 =>
          sG L xs (x4 + 2) fun v137 =>
          sG L xs (x4 + 3) fun v138 =>
          sG L xs (x4 + 4) fun v139 =>
          jn (fun (v140 : Int32) => ((
            bS (liM s135 (f_X8_chance N s135.2.1 v136 v137 v138 v140)) fun v142 s141 =>
            bP (f_X8_thrown N s141.2.1) fun v143 =>
            if v143 = v134 then (
              jn (fun (_u : Unit) => ((
                j1309 s141) : Option (Unit))) fun j1038 =>
              if v134 = 0 then (
                oG s141.2.2 0 fun v144 =>
                if (lg_cmp v144 v142) = 0 then (
                  j1038 ())
                else (
                  none))
              else (
                j1038 ()))
            else (
              none)) : Option (Unit))) fun j1006 =>
          if v139 = 0 then (
            j1006 0)
          else (
            j1006 1)) : Option (Unit))) fun j967 =>
        if v132 = 0 then (
          j967 0)
        else (
          j967 1))
      else if (v1 &&& 31) = 16 then (
        sG L xs (x4 + 1) fun v145 =>
        bS (f_L_erased N s0 v145) fun v146 s147 =>
        sG L xs (x4 + 1) fun v148 =>
        bS (liM s147 (f_X8_erased N s147.2.1 v148)) fun v150 s149 =>
        bP (f_X8_thrown N s149.2.1) fun v151 =>
        if v151 = v146 then (
          jn (fun (_u : Unit) => ((
            j1309 s149) : Option (Unit))) fun j1094 =>
          if v146 = 0 then (
            oG s149.2.2 0 fun v152 =>
            if (lg_cmp v152 (Int32.toInt64 v150)) = 0 then (
              j1094 ())
            else (
              none))
          else (
            j1094 ()))
        else (
          none))
      else if (v1 &&& 31) = 17 then (
        sG L xs (x4 + 1) fun v153 =>
        sG L xs (x4 + 2) fun v154 =>
        jn (fun (v155 : Int32) => ((
          bS (f_L_starred N s0 v153 v155) fun v156 s157 =>
          sG L xs (x4 + 1) fun v158 =>
          sG L xs (x4 + 2) fun v159 =>
          jn (fun (v160 : Int32) => ((
            bS (liM s157 (f_X8_starred N s157.2.1 v158 v160)) fun v162 s161 =>
            bP (f_X8_thrown N s161.2.1) fun v163 =>
            if v163 = v156 then (
              jn (fun (_u : Unit) => ((
                j1309 s161) : Option (Unit))) fun j1177 =>
              if v156 = 0 then (
                oG s161.2.2 0 fun v164 =>
                if (lg_cmp v164 v162) = 0 then (
                  j1177 ())
                else (
                  none))
              else (
                j1177 ()))
            else (
              none)) : Option (Unit))) fun j1145 =>
          if v159 = 0 then (
            j1145 0)
          else (
            j1145 1)) : Option (Unit))) fun j1118 =>
        if v154 = 0 then (
          j1118 0)
        else (
          j1118 1))
      else if (v1 &&& 31) = 18 then (
        sG L xs (x4 + 1) fun v165 =>
        sG L xs (x4 + 2) fun v166 =>
        bS (f_L_move N s0 v165 v166) fun v167 s168 =>
        sG L xs (x4 + 1) fun v169 =>
        sG L xs (x4 + 2) fun v170 =>
        bP (lvM s168 (f_X8_move N s168.2.1 v169 v170)) fun s171 =>
        bP (f_X8_thrown N s171.2.1) fun v172 =>
        if v172 = v167 then (
          j1309 s171)
        else (
          none))
      else if (v1 &&& 31) = 19 then (
        bS (f_L_undo N s0) fun v173 s174 =>
        bS (liM s174 (f_X8_undo N s174.2.1)) fun v176 s175 =>
        bP (f_X8_thrown N s175.2.1) fun v177 =>
        if v177 = v173 then (
          jn (fun (_u : Unit) => ((
            j1309 s175) : Option (Unit))) fun j1269 =>
          if v173 = 0 then (
            oG s175.2.2 0 fun v178 =>
            if (lg_cmp v178 (Int32.toInt64 v176)) = 0 then (
              j1269 ())
            else (
              none))
          else (
            j1269 ()))
        else (
          none))
      else if (v1 &&& 31) = 20 then (
        bS (liC s0 (f_X7_simplify N s0.1)) fun v180 s179 =>
        bS (liM s179 (f_X8_simplify N s179.2.1)) fun v182 s181 =>
        if v180 = v182 then (
          j1309 s181)
        else (
          none))
      else if (v1 &&& 31) = 21 then (
        bP (lvC s0 (f_X7_mark N s0.1)) fun s183 =>
        bP (lvM s183 (f_X8_mark N s183.2.1)) fun s184 =>
        j1309 s184)
      else if (v1 &&& 31) = 22 then (
        bS (liC s0 (f_X7_keeps N s0.1)) fun v186 s185 =>
        bS (liM s185 (f_X8_keeps N s185.2.1)) fun v188 s187 =>
        if v186 = v188 then (
          j1309 s187)
        else (
          none))
      else (
        j1309 s0))
set_option maxHeartbeats 4000000 in
set_option maxRecDepth 100000 in
theorem gl_L_law {N L b : Nat} {xs : Nat → Int32} (hfl : l.stackTraces = false) (E : EV p s m #[Value.ref b] meth c cL_law 8 RL wsL_law ret D cy (wsL cy h) (adL h)) (X0 : SX s (adL h) b L xs) (hge : ∀ q ∈ adL h, s.heap.size ≤ q) : ∀ (n cb sb : Nat), cb + 10 * n ≤ 100000 → sb + 60 * n ≤ 1000000 → ∀ (x4 : Int32) (s0 : W3), G p l e room_1 s m #[Value.ref b] below meth c 8 cb sb D (wsL cy h) (adL h) (fun _ : Unit => lw_Z below #[Value.ref b] s) 23 [(0, .ref b), (1, .ref (h 0)), (2, .ref (h 58)), (3, .ref (h 71)), (4, .int x4)] [] s0 (fl_L_law N L xs n x4 s0) := by
  intro n
  induction n with
  | zero => intros; exact G.no
  | succ n ih =>
    intro cb sb hcb hsb x4 s0
    rw [fl_L_law]
    refine G.iload E dL_law_23 4 rfl ?_
    refine G.aload_n E dL_law_25 0 rfl rfl ?_
    refine G.slen E X0 dL_law_26 ?_
    refine G.iconst (v := 5) E dL_law_27 (by decide) ?_
    refine G.isub E dL_law_28 ?_
    refine G.icmp_gt (tgt := 1315) E dL_law_29 (by decide) ?_ ?_
    · refine G.iconst (v := 1) E dL_law_1315 (by decide) ?_
      exact G.lawret E hge dL_law_1316 (by omega) (by omega)
    · refine G.aload_n E dL_law_32 0 rfl rfl ?_
      refine G.iload E dL_law_33 4 rfl ?_
      refine G.sld E X0 dL_law_35 (fun v1 => ?_)
      refine G.bipush (v := 31) E dL_law_36 (by decide) ?_
      refine G.iand E dL_law_38 ?_
      refine G.jn (P := fun j => ∀ (s2 : W3), G p l e room_1 s m #[Value.ref b] below meth c 8 (cb + 8) (sb + 48) D (wsL cy h) (adL h) (fun _ : Unit => lw_Z below #[Value.ref b] s) 1309 [(0, .ref b), (1, .ref (h 0)), (2, .ref (h 58)), (3, .ref (h 71)), (4, .int x4)] [] s2 (j s2)) ?_ (fun j1309 hj1309 => ?_)
      · intro s2
        refine G.iinc (v := x4 + 5) (lv' := [(4, .int (x4 + 5)), (0, .ref b), (1, .ref (h 0)), (2, .ref (h 58)), (3, .ref (h 71))]) E dL_law_1309 4 rfl rfl (by decide) rfl ?_
        refine G.goto (tgt := 23) E dL_law_1312 (by decide) ?_
        refine G.loc [1, 2, 3, 4, 0] rfl ?_
        exact ih _ _ (by omega) (by omega) _ _
      · refine G.swIn (c0 := 0) (tgt := 144) E dL_law_39 (by decide) (by decide) rfl (by decide) ?_ (fun n0 => ?_)
        · refine G.aload_n E dL_law_144 1 rfl rfl ?_
          refine G.aload_n E dL_law_145 0 rfl rfl ?_
          refine G.iload E dL_law_146 4 rfl ?_
          refine G.iconst (v := 1) E dL_law_148 (by decide) ?_
          refine G.iadd E dL_law_149 ?_
          refine G.sld E X0 dL_law_150 (fun v3 => ?_)
          refine G.jn (P := fun j => ∀ (v4 : Int32), G p l e room_1 s m #[Value.ref b] below meth c 8 (cb + 0) (sb + 0) D (wsL cy h) (adL h) (fun _ : Unit => lw_Z below #[Value.ref b] s) 159 [(0, .ref b), (1, .ref (h 0)), (2, .ref (h 58)), (3, .ref (h 71)), (4, .int x4)] [.int v4, .ref (h 0)] s0 (j v4)) ?_ (fun j159 hj159 => ?_)
          · intro v4
            refine G.aload_n E dL_law_159 3 rfl rfl ?_
            refine G.callW (n := 3) (As := [.ref (h 0), .int v4, .ref (h 71)]) E dL_law_160 (fun _ _ hv => c_L_node E.wf hfl hv) gL_law_L_node rfl rfl rfl (by decide +kernel) ⟨(Nat.le_of_ble_eq_true rfl), (Nat.le_of_ble_eq_true rfl)⟩ rfl (Nat.le_of_ble_eq_true rfl) ⟨by simp only [room_1]; omega, by simp only [room_1]; omega⟩ (fun v5 s6 => ?_)
            refine G.istore (lv' := [(5, .int v5), (0, .ref b), (1, .ref (h 0)), (2, .ref (h 58)), (3, .ref (h 71)), (4, .int x4)]) E dL_law_163 (by decide) rfl ?_
            refine G.aload_n E dL_law_165 3 rfl rfl ?_
            refine G.aload_n E dL_law_166 1 rfl rfl ?_
            refine G.iload E dL_law_167 5 rfl ?_
            refine G.iconst (v := 1) E dL_law_169 (by decide) ?_
            refine G.iadd E dL_law_170 ?_
            refine G.sld E X0 dL_law_171 (fun v7 => ?_)
            refine G.jn (P := fun j => ∀ (v8 : Int32), G p l e room_1 s m #[Value.ref b] below meth c 8 (cb + 1) (sb + 6) D (wsL cy h) (adL h) (fun _ : Unit => lw_Z below #[Value.ref b] s) 180 [(0, .ref b), (1, .ref (h 0)), (2, .ref (h 58)), (3, .ref (h 71)), (4, .int x4), (5, .int v5)] [.int v8, .ref (h 58)] s6 (j v8)) ?_ (fun j180 hj180 => ?_)
            · intro v8
              refine G.callVis (mc := 0) (ms := 0) (rm := rm_X8_node) (n := 1) (T := TX8) (N := 21) (C := RX8) (a := h 58) (q0 := 58) (As := [.int v8]) E dL_law_180 (fun _ _ hv => by obtain ⟨τ, hf, rfl⟩ := liM_some hv; exact Con.inM E.wf (c_X8_node (wfL_M E.wf) hf)) gL_law_X8_node rfl rfl rfl (by decide +kernel) ⟨(Nat.le_of_ble_eq_true rfl), (Nat.le_of_ble_eq_true rfl)⟩ ((wsL_at58 _ _ _).trans (wsM_at0 _ _ _)) rfl rfl (Nat.le_of_ble_eq_true rfl) ⟨by simp only [room_1]; omega, by simp only [room_1]; omega⟩ (fun v10 s9 => ?_)
              refine G.istore (lv' := [(6, .int v10), (0, .ref b), (1, .ref (h 0)), (2, .ref (h 58)), (3, .ref (h 71)), (4, .int x4), (5, .int v5)]) E dL_law_183 (by decide) rfl ?_
              refine G.aload_n E dL_law_185 3 rfl rfl ?_
              refine G.callVi (mc := 0) (ms := 0) (rm := rm_X8_thrown) (n := 0) (T := TX8) (N := 21) (C := RX8) (a := h 58) (q0 := 58) (As := []) E dL_law_186 (fun _ hv => Con.inM E.wf (c_X8_thrown (wfL_M E.wf) hv)) gL_law_X8_thrown rfl rfl rfl (by decide +kernel) ⟨(Nat.le_of_ble_eq_true rfl), (Nat.le_of_ble_eq_true rfl)⟩ ((wsL_at58 _ _ _).trans (wsM_at0 _ _ _)) rfl rfl (Nat.le_of_ble_eq_true rfl) ⟨by simp only [room_1]; omega, by simp only [room_1]; omega⟩ (fun v11 => ?_)
              refine G.iload E dL_law_189 6 rfl ?_
              refine G.icmp_eq (tgt := 196) E dL_law_191 (by decide) ?_ ?_
              · refine G.iload E dL_law_196 6 rfl ?_
                refine G.jn (P := fun j => ∀ (_u : Unit), G p l e room_1 s m #[Value.ref b] below meth c 8 (cb + 1) (sb + 6) D (wsL cy h) (adL h) (fun _ : Unit => lw_Z below #[Value.ref b] s) 213 [(0, .ref b), (1, .ref (h 0)), (2, .ref (h 58)), (3, .ref (h 71)), (4, .int x4)] [] s9 (j _u)) ?_ (fun j213 hj213 => ?_)
                · intro _u
                  refine G.goto (tgt := 1309) E dL_law_213 (by decide) ?_
                  refine G.widen (k1 := cb + 8) (n1 := sb + 48) (by omega) (by omega) ?_
                  refine G.loc [0, 1, 2, 3, 4] rfl ?_
                  exact hj1309 s9
                · refine G.if_ne (tgt := 213) E dL_law_198 (by decide) ?_ ?_
                  · refine G.aload_n E dL_law_201 4 rfl rfl ?_
                    refine G.iconst (v := 0) E dL_law_202 (by decide) ?_
                    refine G.oald (q0 := 71) E dL_law_203 (wsL_at71 _ _ _) (fun v12 => ?_)
                    refine G.iload E dL_law_204 0 rfl ?_
                    refine G.i2l E dL_law_206 ?_
                    refine G.lcmp E dL_law_207 ?_
                    refine G.if_eq (tgt := 213) E dL_law_208 (by decide) ?_ ?_
                    · refine G.loc [1, 2, 3, 4, 5] rfl ?_
                      exact hj213 ()
                    · refine G.iconst (v := 0) E dL_law_211 (by decide) ?_
                      exact G.no
                  · refine G.loc [1, 2, 3, 4, 5] rfl ?_
                    exact hj213 ()
              · refine G.iconst (v := 0) E dL_law_194 (by decide) ?_
                exact G.no
            · refine G.if_eq (tgt := 179) E dL_law_172 (by decide) ?_ ?_
              · refine G.iconst (v := 0) E dL_law_179 (by decide) ?_
                refine G.loc [1, 2, 3, 4, 5, 0] rfl ?_
                exact hj180 0
              · refine G.iconst (v := 1) E dL_law_175 (by decide) ?_
                refine G.goto (tgt := 180) E dL_law_176 (by decide) ?_
                refine G.loc [1, 2, 3, 4, 5, 0] rfl ?_
                exact hj180 1
          · refine G.if_eq (tgt := 158) E dL_law_151 (by decide) ?_ ?_
            · refine G.iconst (v := 0) E dL_law_158 (by decide) ?_
              refine G.loc [0, 1, 2, 3, 4] rfl ?_
              exact hj159 0
            · refine G.iconst (v := 1) E dL_law_154 (by decide) ?_
              refine G.goto (tgt := 159) E dL_law_155 (by decide) ?_
              refine G.loc [0, 1, 2, 3, 4] rfl ?_
              exact hj159 1
        refine G.swIn (c0 := 1) (tgt := 216) E dL_law_39 (by decide) (by decide) rfl (by decide) ?_ (fun n1 => ?_)
        · refine G.aload_n E dL_law_216 1 rfl rfl ?_
          refine G.aload_n E dL_law_217 0 rfl rfl ?_
          refine G.iload E dL_law_218 4 rfl ?_
          refine G.iconst (v := 1) E dL_law_220 (by decide) ?_
          refine G.iadd E dL_law_221 ?_
          refine G.sld E X0 dL_law_222 (fun v13 => ?_)
          refine G.aload_n E dL_law_223 0 rfl rfl ?_
          refine G.iload E dL_law_224 4 rfl ?_
          refine G.iconst (v := 2) E dL_law_226 (by decide) ?_
          refine G.iadd E dL_law_227 ?_
          refine G.sld E X0 dL_law_228 (fun v14 => ?_)
          refine G.aload_n E dL_law_229 0 rfl rfl ?_
          refine G.iload E dL_law_230 4 rfl ?_
          refine G.iconst (v := 3) E dL_law_232 (by decide) ?_
          refine G.iadd E dL_law_233 ?_
          refine G.sld E X0 dL_law_234 (fun v15 => ?_)
          refine G.aload_n E dL_law_235 3 rfl rfl ?_
          refine G.callW (n := 5) (As := [.ref (h 0), .int v13, .int v14, .int v15, .ref (h 71)]) E dL_law_236 (fun _ _ hv => c_L_wire E.wf hfl hv) gL_law_L_wire rfl rfl rfl (by decide +kernel) ⟨(Nat.le_of_ble_eq_true rfl), (Nat.le_of_ble_eq_true rfl)⟩ rfl (Nat.le_of_ble_eq_true rfl) ⟨by simp only [room_1]; omega, by simp only [room_1]; omega⟩ (fun v16 s17 => ?_)
          refine G.istore (lv' := [(5, .int v16), (0, .ref b), (1, .ref (h 0)), (2, .ref (h 58)), (3, .ref (h 71)), (4, .int x4)]) E dL_law_239 (by decide) rfl ?_
          refine G.aload_n E dL_law_241 3 rfl rfl ?_
          refine G.aload_n E dL_law_242 1 rfl rfl ?_
          refine G.iload E dL_law_243 5 rfl ?_
          refine G.iconst (v := 1) E dL_law_245 (by decide) ?_
          refine G.iadd E dL_law_246 ?_
          refine G.sld E X0 dL_law_247 (fun v18 => ?_)
          refine G.aload_n E dL_law_248 1 rfl rfl ?_
          refine G.iload E dL_law_249 5 rfl ?_
          refine G.iconst (v := 2) E dL_law_251 (by decide) ?_
          refine G.iadd E dL_law_252 ?_
          refine G.sld E X0 dL_law_253 (fun v19 => ?_)
          refine G.aload_n E dL_law_254 1 rfl rfl ?_
          refine G.iload E dL_law_255 5 rfl ?_
          refine G.iconst (v := 3) E dL_law_257 (by decide) ?_
          refine G.iadd E dL_law_258 ?_
          refine G.sld E X0 dL_law_259 (fun v20 => ?_)
          refine G.callVis (mc := 0) (ms := 0) (rm := rm_X8_wire) (n := 3) (T := TX8) (N := 21) (C := RX8) (a := h 58) (q0 := 58) (As := [.int v18, .int v19, .int v20]) E dL_law_260 (fun _ _ hv => by obtain ⟨τ, hf, rfl⟩ := liM_some hv; exact Con.inM E.wf (c_X8_wire (wfL_M E.wf) hf)) gL_law_X8_wire rfl rfl rfl (by decide +kernel) ⟨(Nat.le_of_ble_eq_true rfl), (Nat.le_of_ble_eq_true rfl)⟩ ((wsL_at58 _ _ _).trans (wsM_at0 _ _ _)) rfl rfl (Nat.le_of_ble_eq_true rfl) ⟨by simp only [room_1]; omega, by simp only [room_1]; omega⟩ (fun v22 s21 => ?_)
          refine G.istore (lv' := [(6, .int v22), (5, .int v16), (0, .ref b), (1, .ref (h 0)), (2, .ref (h 58)), (3, .ref (h 71)), (4, .int x4)]) E dL_law_263 (by decide) rfl ?_
          refine G.aload_n E dL_law_265 4 rfl rfl ?_
          refine G.callVi (mc := 0) (ms := 0) (rm := rm_X8_thrown) (n := 0) (T := TX8) (N := 21) (C := RX8) (a := h 58) (q0 := 58) (As := []) E dL_law_266 (fun _ hv => Con.inM E.wf (c_X8_thrown (wfL_M E.wf) hv)) gL_law_X8_thrown rfl rfl rfl (by decide +kernel) ⟨(Nat.le_of_ble_eq_true rfl), (Nat.le_of_ble_eq_true rfl)⟩ ((wsL_at58 _ _ _).trans (wsM_at0 _ _ _)) rfl rfl (Nat.le_of_ble_eq_true rfl) ⟨by simp only [room_1]; omega, by simp only [room_1]; omega⟩ (fun v23 => ?_)
          refine G.iload E dL_law_269 1 rfl ?_
          refine G.icmp_eq (tgt := 276) E dL_law_271 (by decide) ?_ ?_
          · refine G.iload E dL_law_276 1 rfl ?_
            refine G.jn (P := fun j => ∀ (_u : Unit), G p l e room_1 s m #[Value.ref b] below meth c 8 (cb + 3) (sb + 18) D (wsL cy h) (adL h) (fun _ : Unit => lw_Z below #[Value.ref b] s) 293 [(0, .ref b), (1, .ref (h 0)), (2, .ref (h 58)), (3, .ref (h 71)), (4, .int x4)] [] s21 (j _u)) ?_ (fun j293 hj293 => ?_)
            · intro _u
              refine G.goto (tgt := 1309) E dL_law_293 (by decide) ?_
              refine G.widen (k1 := cb + 8) (n1 := sb + 48) (by omega) (by omega) ?_
              refine G.loc [0, 1, 2, 3, 4] rfl ?_
              exact hj1309 s21
            · refine G.if_ne (tgt := 293) E dL_law_278 (by decide) ?_ ?_
              · refine G.aload_n E dL_law_281 5 rfl rfl ?_
                refine G.iconst (v := 0) E dL_law_282 (by decide) ?_
                refine G.oald (q0 := 71) E dL_law_283 (wsL_at71 _ _ _) (fun v24 => ?_)
                refine G.iload E dL_law_284 0 rfl ?_
                refine G.i2l E dL_law_286 ?_
                refine G.lcmp E dL_law_287 ?_
                refine G.if_eq (tgt := 293) E dL_law_288 (by decide) ?_ ?_
                · refine G.loc [2, 3, 4, 5, 6] rfl ?_
                  exact hj293 ()
                · refine G.iconst (v := 0) E dL_law_291 (by decide) ?_
                  exact G.no
              · refine G.loc [2, 3, 4, 5, 6] rfl ?_
                exact hj293 ()
          · refine G.iconst (v := 0) E dL_law_274 (by decide) ?_
            exact G.no
        refine G.swIn (c0 := 2) (tgt := 296) E dL_law_39 (by decide) (by decide) rfl (by decide) ?_ (fun n2 => ?_)
        · refine G.aload_n E dL_law_296 1 rfl rfl ?_
          refine G.aload_n E dL_law_297 0 rfl rfl ?_
          refine G.iload E dL_law_298 4 rfl ?_
          refine G.iconst (v := 1) E dL_law_300 (by decide) ?_
          refine G.iadd E dL_law_301 ?_
          refine G.sld E X0 dL_law_302 (fun v25 => ?_)
          refine G.aload_n E dL_law_303 0 rfl rfl ?_
          refine G.iload E dL_law_304 4 rfl ?_
          refine G.iconst (v := 2) E dL_law_306 (by decide) ?_
          refine G.iadd E dL_law_307 ?_
          refine G.sld E X0 dL_law_308 (fun v26 => ?_)
          refine G.aload_n E dL_law_309 3 rfl rfl ?_
          refine G.callW (n := 4) (As := [.ref (h 0), .int v25, .int v26, .ref (h 71)]) E dL_law_310 (fun _ _ hv => c_L_wireIs E.wf hfl hv) gL_law_L_wireIs rfl rfl rfl (by decide +kernel) ⟨(Nat.le_of_ble_eq_true rfl), (Nat.le_of_ble_eq_true rfl)⟩ rfl (Nat.le_of_ble_eq_true rfl) ⟨by simp only [room_1]; omega, by simp only [room_1]; omega⟩ (fun v27 s28 => ?_)
          refine G.istore (lv' := [(5, .int v27), (0, .ref b), (1, .ref (h 0)), (2, .ref (h 58)), (3, .ref (h 71)), (4, .int x4)]) E dL_law_313 (by decide) rfl ?_
          refine G.aload_n E dL_law_315 3 rfl rfl ?_
          refine G.aload_n E dL_law_316 1 rfl rfl ?_
          refine G.iload E dL_law_317 5 rfl ?_
          refine G.iconst (v := 1) E dL_law_319 (by decide) ?_
          refine G.iadd E dL_law_320 ?_
          refine G.sld E X0 dL_law_321 (fun v29 => ?_)
          refine G.aload_n E dL_law_322 1 rfl rfl ?_
          refine G.iload E dL_law_323 5 rfl ?_
          refine G.iconst (v := 2) E dL_law_325 (by decide) ?_
          refine G.iadd E dL_law_326 ?_
          refine G.sld E X0 dL_law_327 (fun v30 => ?_)
          refine G.callVis (mc := 0) (ms := 0) (rm := rm_X8_wireIs) (n := 2) (T := TX8) (N := 21) (C := RX8) (a := h 58) (q0 := 58) (As := [.int v29, .int v30]) E dL_law_328 (fun _ _ hv => by obtain ⟨τ, hf, rfl⟩ := liM_some hv; exact Con.inM E.wf (c_X8_wireIs (wfL_M E.wf) hf)) gL_law_X8_wireIs rfl rfl rfl (by decide +kernel) ⟨(Nat.le_of_ble_eq_true rfl), (Nat.le_of_ble_eq_true rfl)⟩ ((wsL_at58 _ _ _).trans (wsM_at0 _ _ _)) rfl rfl (Nat.le_of_ble_eq_true rfl) ⟨by simp only [room_1]; omega, by simp only [room_1]; omega⟩ (fun v32 s31 => ?_)
          refine G.istore (lv' := [(6, .int v32), (5, .int v27), (0, .ref b), (1, .ref (h 0)), (2, .ref (h 58)), (3, .ref (h 71)), (4, .int x4)]) E dL_law_331 (by decide) rfl ?_
          refine G.aload_n E dL_law_333 4 rfl rfl ?_
          refine G.callVi (mc := 0) (ms := 0) (rm := rm_X8_thrown) (n := 0) (T := TX8) (N := 21) (C := RX8) (a := h 58) (q0 := 58) (As := []) E dL_law_334 (fun _ hv => Con.inM E.wf (c_X8_thrown (wfL_M E.wf) hv)) gL_law_X8_thrown rfl rfl rfl (by decide +kernel) ⟨(Nat.le_of_ble_eq_true rfl), (Nat.le_of_ble_eq_true rfl)⟩ ((wsL_at58 _ _ _).trans (wsM_at0 _ _ _)) rfl rfl (Nat.le_of_ble_eq_true rfl) ⟨by simp only [room_1]; omega, by simp only [room_1]; omega⟩ (fun v33 => ?_)
          refine G.iload E dL_law_337 1 rfl ?_
          refine G.icmp_eq (tgt := 344) E dL_law_339 (by decide) ?_ ?_
          · refine G.iload E dL_law_344 1 rfl ?_
            refine G.jn (P := fun j => ∀ (_u : Unit), G p l e room_1 s m #[Value.ref b] below meth c 8 (cb + 2) (sb + 12) D (wsL cy h) (adL h) (fun _ : Unit => lw_Z below #[Value.ref b] s) 361 [(0, .ref b), (1, .ref (h 0)), (2, .ref (h 58)), (3, .ref (h 71)), (4, .int x4)] [] s31 (j _u)) ?_ (fun j361 hj361 => ?_)
            · intro _u
              refine G.goto (tgt := 1309) E dL_law_361 (by decide) ?_
              refine G.widen (k1 := cb + 8) (n1 := sb + 48) (by omega) (by omega) ?_
              refine G.loc [0, 1, 2, 3, 4] rfl ?_
              exact hj1309 s31
            · refine G.if_ne (tgt := 361) E dL_law_346 (by decide) ?_ ?_
              · refine G.aload_n E dL_law_349 5 rfl rfl ?_
                refine G.iconst (v := 0) E dL_law_350 (by decide) ?_
                refine G.oald (q0 := 71) E dL_law_351 (wsL_at71 _ _ _) (fun v34 => ?_)
                refine G.iload E dL_law_352 0 rfl ?_
                refine G.i2l E dL_law_354 ?_
                refine G.lcmp E dL_law_355 ?_
                refine G.if_eq (tgt := 361) E dL_law_356 (by decide) ?_ ?_
                · refine G.loc [2, 3, 4, 5, 6] rfl ?_
                  exact hj361 ()
                · refine G.iconst (v := 0) E dL_law_359 (by decide) ?_
                  exact G.no
              · refine G.loc [2, 3, 4, 5, 6] rfl ?_
                exact hj361 ()
          · refine G.iconst (v := 0) E dL_law_342 (by decide) ?_
            exact G.no
        refine G.swIn (c0 := 3) (tgt := 364) E dL_law_39 (by decide) (by decide) rfl (by decide) ?_ (fun n3 => ?_)
        · refine G.aload_n E dL_law_364 1 rfl rfl ?_
          refine G.callVi (mc := 0) (ms := 0) (rm := rm_X7_nodes) (n := 0) (T := TX7) (N := 7) (C := RX7) (a := h 0) (q0 := 0) (As := []) E dL_law_365 (fun _ hv => Con.inC E.wf (c_X7_nodes (wfL_C E.wf) hv)) gL_law_X7_nodes rfl rfl rfl (by decide +kernel) ⟨(Nat.le_of_ble_eq_true rfl), (Nat.le_of_ble_eq_true rfl)⟩ ((wsL_at0 _ _ _).trans (wsC_at0 _ _ _)) rfl rfl (Nat.le_of_ble_eq_true rfl) ⟨by simp only [room_1]; omega, by simp only [room_1]; omega⟩ (fun v35 => ?_)
          refine G.aload_n E dL_law_368 2 rfl rfl ?_
          refine G.callVis (mc := 0) (ms := 0) (rm := rm_X8_nodes) (n := 0) (T := TX8) (N := 21) (C := RX8) (a := h 58) (q0 := 58) (As := []) E dL_law_369 (fun _ _ hv => by obtain ⟨τ, hf, rfl⟩ := liM_some hv; exact Con.inM E.wf (c_X8_nodes (wfL_M E.wf) hf)) gL_law_X8_nodes rfl rfl rfl (by decide +kernel) ⟨(Nat.le_of_ble_eq_true rfl), (Nat.le_of_ble_eq_true rfl)⟩ ((wsL_at58 _ _ _).trans (wsM_at0 _ _ _)) rfl rfl (Nat.le_of_ble_eq_true rfl) ⟨by simp only [room_1]; omega, by simp only [room_1]; omega⟩ (fun v37 s36 => ?_)
          refine G.icmp_eq (tgt := 1309) E dL_law_372 (by decide) ?_ ?_
          · refine G.widen (k1 := cb + 8) (n1 := sb + 48) (by omega) (by omega) ?_
            refine G.loc [0, 1, 2, 3, 4] rfl ?_
            exact hj1309 s36
          · refine G.iconst (v := 0) E dL_law_375 (by decide) ?_
            exact G.no
        refine G.swIn (c0 := 4) (tgt := 377) E dL_law_39 (by decide) (by decide) rfl (by decide) ?_ (fun n4 => ?_)
        · refine G.aload_n E dL_law_377 1 rfl rfl ?_
          refine G.callVi (mc := 0) (ms := 0) (rm := rm_X7_wires) (n := 0) (T := TX7) (N := 7) (C := RX7) (a := h 0) (q0 := 0) (As := []) E dL_law_378 (fun _ hv => Con.inC E.wf (c_X7_wires (wfL_C E.wf) hv)) gL_law_X7_wires rfl rfl rfl (by decide +kernel) ⟨(Nat.le_of_ble_eq_true rfl), (Nat.le_of_ble_eq_true rfl)⟩ ((wsL_at0 _ _ _).trans (wsC_at0 _ _ _)) rfl rfl (Nat.le_of_ble_eq_true rfl) ⟨by simp only [room_1]; omega, by simp only [room_1]; omega⟩ (fun v38 => ?_)
          refine G.aload_n E dL_law_381 2 rfl rfl ?_
          refine G.callVis (mc := 0) (ms := 0) (rm := rm_X8_wires) (n := 0) (T := TX8) (N := 21) (C := RX8) (a := h 58) (q0 := 58) (As := []) E dL_law_382 (fun _ _ hv => by obtain ⟨τ, hf, rfl⟩ := liM_some hv; exact Con.inM E.wf (c_X8_wires (wfL_M E.wf) hf)) gL_law_X8_wires rfl rfl rfl (by decide +kernel) ⟨(Nat.le_of_ble_eq_true rfl), (Nat.le_of_ble_eq_true rfl)⟩ ((wsL_at58 _ _ _).trans (wsM_at0 _ _ _)) rfl rfl (Nat.le_of_ble_eq_true rfl) ⟨by simp only [room_1]; omega, by simp only [room_1]; omega⟩ (fun v40 s39 => ?_)
          refine G.icmp_eq (tgt := 1309) E dL_law_385 (by decide) ?_ ?_
          · refine G.widen (k1 := cb + 8) (n1 := sb + 48) (by omega) (by omega) ?_
            refine G.loc [0, 1, 2, 3, 4] rfl ?_
            exact hj1309 s39
          · refine G.iconst (v := 0) E dL_law_388 (by decide) ?_
            exact G.no
        refine G.swIn (c0 := 5) (tgt := 390) E dL_law_39 (by decide) (by decide) rfl (by decide) ?_ (fun n5 => ?_)
        · refine G.aload_n E dL_law_390 1 rfl rfl ?_
          refine G.callVls (mc := 0) (ms := 0) (rm := rm_X7_trees) (n := 0) (T := TX7) (N := 7) (C := RX7) (a := h 0) (q0 := 0) (As := []) E dL_law_391 (fun _ _ hv => by obtain ⟨τ, hf, rfl⟩ := liC_some hv; exact Con.inC E.wf (c_X7_trees (wfL_C E.wf) hf)) gL_law_X7_trees rfl rfl rfl (by decide +kernel) ⟨(Nat.le_of_ble_eq_true rfl), (Nat.le_of_ble_eq_true rfl)⟩ ((wsL_at0 _ _ _).trans (wsC_at0 _ _ _)) rfl rfl (Nat.le_of_ble_eq_true rfl) ⟨by simp only [room_1]; omega, by simp only [room_1]; omega⟩ (fun v42 s41 => ?_)
          refine G.aload_n E dL_law_394 2 rfl rfl ?_
          refine G.callVls (mc := 0) (ms := 0) (rm := rm_X8_trees) (n := 0) (T := TX8) (N := 21) (C := RX8) (a := h 58) (q0 := 58) (As := []) E dL_law_395 (fun _ _ hv => by obtain ⟨τ, hf, rfl⟩ := liM_some hv; exact Con.inM E.wf (c_X8_trees (wfL_M E.wf) hf)) gL_law_X8_trees rfl rfl rfl (by decide +kernel) ⟨(Nat.le_of_ble_eq_true rfl), (Nat.le_of_ble_eq_true rfl)⟩ ((wsL_at58 _ _ _).trans (wsM_at0 _ _ _)) rfl rfl (Nat.le_of_ble_eq_true rfl) ⟨by simp only [room_1]; omega, by simp only [room_1]; omega⟩ (fun v44 s43 => ?_)
          refine G.lcmp E dL_law_398 ?_
          refine G.if_eq (tgt := 1309) E dL_law_399 (by decide) ?_ ?_
          · refine G.widen (k1 := cb + 8) (n1 := sb + 48) (by omega) (by omega) ?_
            refine G.loc [0, 1, 2, 3, 4] rfl ?_
            exact hj1309 s43
          · refine G.iconst (v := 0) E dL_law_402 (by decide) ?_
            exact G.no
        refine G.swIn (c0 := 6) (tgt := 404) E dL_law_39 (by decide) (by decide) rfl (by decide) ?_ (fun n6 => ?_)
        · refine G.aload_n E dL_law_404 1 rfl rfl ?_
          refine G.callVls (mc := 0) (ms := 0) (rm := rm_X7_treesAnew) (n := 0) (T := TX7) (N := 7) (C := RX7) (a := h 0) (q0 := 0) (As := []) E dL_law_405 (fun _ _ hv => by obtain ⟨τ, hf, rfl⟩ := liC_some hv; exact Con.inC E.wf (c_X7_treesAnew (wfL_C E.wf) hf)) gL_law_X7_treesAnew rfl rfl rfl (by decide +kernel) ⟨(Nat.le_of_ble_eq_true rfl), (Nat.le_of_ble_eq_true rfl)⟩ ((wsL_at0 _ _ _).trans (wsC_at0 _ _ _)) rfl rfl (Nat.le_of_ble_eq_true rfl) ⟨by simp only [room_1]; omega, by simp only [room_1]; omega⟩ (fun v46 s45 => ?_)
          refine G.aload_n E dL_law_408 2 rfl rfl ?_
          refine G.callVls (mc := 0) (ms := 0) (rm := rm_X8_treesAnew) (n := 0) (T := TX8) (N := 21) (C := RX8) (a := h 58) (q0 := 58) (As := []) E dL_law_409 (fun _ _ hv => by obtain ⟨τ, hf, rfl⟩ := liM_some hv; exact Con.inM E.wf (c_X8_treesAnew (wfL_M E.wf) hf)) gL_law_X8_treesAnew rfl rfl rfl (by decide +kernel) ⟨(Nat.le_of_ble_eq_true rfl), (Nat.le_of_ble_eq_true rfl)⟩ ((wsL_at58 _ _ _).trans (wsM_at0 _ _ _)) rfl rfl (Nat.le_of_ble_eq_true rfl) ⟨by simp only [room_1]; omega, by simp only [room_1]; omega⟩ (fun v48 s47 => ?_)
          refine G.lcmp E dL_law_412 ?_
          refine G.if_eq (tgt := 1309) E dL_law_413 (by decide) ?_ ?_
          · refine G.widen (k1 := cb + 8) (n1 := sb + 48) (by omega) (by omega) ?_
            refine G.loc [0, 1, 2, 3, 4] rfl ?_
            exact hj1309 s47
          · refine G.iconst (v := 0) E dL_law_416 (by decide) ?_
            exact G.no
        refine G.swIn (c0 := 7) (tgt := 418) E dL_law_39 (by decide) (by decide) rfl (by decide) ?_ (fun n7 => ?_)
        · refine G.aload_n E dL_law_418 1 rfl rfl ?_
          refine G.aload_n E dL_law_419 0 rfl rfl ?_
          refine G.iload E dL_law_420 4 rfl ?_
          refine G.iconst (v := 1) E dL_law_422 (by decide) ?_
          refine G.iadd E dL_law_423 ?_
          refine G.sld E X0 dL_law_424 (fun v49 => ?_)
          refine G.aload_n E dL_law_425 3 rfl rfl ?_
          refine G.callW (n := 3) (As := [.ref (h 0), .int v49, .ref (h 71)]) E dL_law_426 (fun _ _ hv => c_L_tree E.wf hfl hv) gL_law_L_tree rfl rfl rfl (by decide +kernel) ⟨(Nat.le_of_ble_eq_true rfl), (Nat.le_of_ble_eq_true rfl)⟩ rfl (Nat.le_of_ble_eq_true rfl) ⟨by simp only [room_1]; omega, by simp only [room_1]; omega⟩ (fun v50 s51 => ?_)
          refine G.istore (lv' := [(5, .int v50), (0, .ref b), (1, .ref (h 0)), (2, .ref (h 58)), (3, .ref (h 71)), (4, .int x4)]) E dL_law_429 (by decide) rfl ?_
          refine G.aload_n E dL_law_431 3 rfl rfl ?_
          refine G.aload_n E dL_law_432 1 rfl rfl ?_
          refine G.iload E dL_law_433 5 rfl ?_
          refine G.iconst (v := 1) E dL_law_435 (by decide) ?_
          refine G.iadd E dL_law_436 ?_
          refine G.sld E X0 dL_law_437 (fun v52 => ?_)
          refine G.callVis (mc := 0) (ms := 0) (rm := rm_X8_tree) (n := 1) (T := TX8) (N := 21) (C := RX8) (a := h 58) (q0 := 58) (As := [.int v52]) E dL_law_438 (fun _ _ hv => by obtain ⟨τ, hf, rfl⟩ := liM_some hv; exact Con.inM E.wf (c_X8_tree (wfL_M E.wf) hf)) gL_law_X8_tree rfl rfl rfl (by decide +kernel) ⟨(Nat.le_of_ble_eq_true rfl), (Nat.le_of_ble_eq_true rfl)⟩ ((wsL_at58 _ _ _).trans (wsM_at0 _ _ _)) rfl rfl (Nat.le_of_ble_eq_true rfl) ⟨by simp only [room_1]; omega, by simp only [room_1]; omega⟩ (fun v54 s53 => ?_)
          refine G.istore (lv' := [(6, .int v54), (5, .int v50), (0, .ref b), (1, .ref (h 0)), (2, .ref (h 58)), (3, .ref (h 71)), (4, .int x4)]) E dL_law_441 (by decide) rfl ?_
          refine G.aload_n E dL_law_443 4 rfl rfl ?_
          refine G.callVi (mc := 0) (ms := 0) (rm := rm_X8_thrown) (n := 0) (T := TX8) (N := 21) (C := RX8) (a := h 58) (q0 := 58) (As := []) E dL_law_444 (fun _ hv => Con.inM E.wf (c_X8_thrown (wfL_M E.wf) hv)) gL_law_X8_thrown rfl rfl rfl (by decide +kernel) ⟨(Nat.le_of_ble_eq_true rfl), (Nat.le_of_ble_eq_true rfl)⟩ ((wsL_at58 _ _ _).trans (wsM_at0 _ _ _)) rfl rfl (Nat.le_of_ble_eq_true rfl) ⟨by simp only [room_1]; omega, by simp only [room_1]; omega⟩ (fun v55 => ?_)
          refine G.iload E dL_law_447 1 rfl ?_
          refine G.icmp_eq (tgt := 454) E dL_law_449 (by decide) ?_ ?_
          · refine G.iload E dL_law_454 1 rfl ?_
            refine G.jn (P := fun j => ∀ (_u : Unit), G p l e room_1 s m #[Value.ref b] below meth c 8 (cb + 1) (sb + 6) D (wsL cy h) (adL h) (fun _ : Unit => lw_Z below #[Value.ref b] s) 471 [(0, .ref b), (1, .ref (h 0)), (2, .ref (h 58)), (3, .ref (h 71)), (4, .int x4)] [] s53 (j _u)) ?_ (fun j471 hj471 => ?_)
            · intro _u
              refine G.goto (tgt := 1309) E dL_law_471 (by decide) ?_
              refine G.widen (k1 := cb + 8) (n1 := sb + 48) (by omega) (by omega) ?_
              refine G.loc [0, 1, 2, 3, 4] rfl ?_
              exact hj1309 s53
            · refine G.if_ne (tgt := 471) E dL_law_456 (by decide) ?_ ?_
              · refine G.aload_n E dL_law_459 5 rfl rfl ?_
                refine G.iconst (v := 0) E dL_law_460 (by decide) ?_
                refine G.oald (q0 := 71) E dL_law_461 (wsL_at71 _ _ _) (fun v56 => ?_)
                refine G.iload E dL_law_462 0 rfl ?_
                refine G.i2l E dL_law_464 ?_
                refine G.lcmp E dL_law_465 ?_
                refine G.if_eq (tgt := 471) E dL_law_466 (by decide) ?_ ?_
                · refine G.loc [2, 3, 4, 5, 6] rfl ?_
                  exact hj471 ()
                · refine G.iconst (v := 0) E dL_law_469 (by decide) ?_
                  exact G.no
              · refine G.loc [2, 3, 4, 5, 6] rfl ?_
                exact hj471 ()
          · refine G.iconst (v := 0) E dL_law_452 (by decide) ?_
            exact G.no
        refine G.swIn (c0 := 8) (tgt := 474) E dL_law_39 (by decide) (by decide) rfl (by decide) ?_ (fun n8 => ?_)
        · refine G.aload_n E dL_law_474 1 rfl rfl ?_
          refine G.callVls (mc := 0) (ms := 0) (rm := rm_X7_rest) (n := 0) (T := TX7) (N := 7) (C := RX7) (a := h 0) (q0 := 0) (As := []) E dL_law_475 (fun _ _ hv => by obtain ⟨τ, hf, rfl⟩ := liC_some hv; exact Con.inC E.wf (c_X7_rest (wfL_C E.wf) hf)) gL_law_X7_rest rfl rfl rfl (by decide +kernel) ⟨(Nat.le_of_ble_eq_true rfl), (Nat.le_of_ble_eq_true rfl)⟩ ((wsL_at0 _ _ _).trans (wsC_at0 _ _ _)) rfl rfl (Nat.le_of_ble_eq_true rfl) ⟨by simp only [room_1]; omega, by simp only [room_1]; omega⟩ (fun v58 s57 => ?_)
          refine G.aload_n E dL_law_478 2 rfl rfl ?_
          refine G.callVls (mc := 0) (ms := 0) (rm := rm_X8_rest) (n := 0) (T := TX8) (N := 21) (C := RX8) (a := h 58) (q0 := 58) (As := []) E dL_law_479 (fun _ _ hv => by obtain ⟨τ, hf, rfl⟩ := liM_some hv; exact Con.inM E.wf (c_X8_rest (wfL_M E.wf) hf)) gL_law_X8_rest rfl rfl rfl (by decide +kernel) ⟨(Nat.le_of_ble_eq_true rfl), (Nat.le_of_ble_eq_true rfl)⟩ ((wsL_at58 _ _ _).trans (wsM_at0 _ _ _)) rfl rfl (Nat.le_of_ble_eq_true rfl) ⟨by simp only [room_1]; omega, by simp only [room_1]; omega⟩ (fun v60 s59 => ?_)
          refine G.lcmp E dL_law_482 ?_
          refine G.if_eq (tgt := 1309) E dL_law_483 (by decide) ?_ ?_
          · refine G.widen (k1 := cb + 8) (n1 := sb + 48) (by omega) (by omega) ?_
            refine G.loc [0, 1, 2, 3, 4] rfl ?_
            exact hj1309 s59
          · refine G.iconst (v := 0) E dL_law_486 (by decide) ?_
            exact G.no
        refine G.swIn (c0 := 9) (tgt := 488) E dL_law_39 (by decide) (by decide) rfl (by decide) ?_ (fun n9 => ?_)
        · refine G.aload_n E dL_law_488 1 rfl rfl ?_
          refine G.aload_n E dL_law_489 0 rfl rfl ?_
          refine G.iload E dL_law_490 4 rfl ?_
          refine G.iconst (v := 1) E dL_law_492 (by decide) ?_
          refine G.iadd E dL_law_493 ?_
          refine G.sld E X0 dL_law_494 (fun v61 => ?_)
          refine G.aload_n E dL_law_495 0 rfl rfl ?_
          refine G.iload E dL_law_496 4 rfl ?_
          refine G.iconst (v := 2) E dL_law_498 (by decide) ?_
          refine G.iadd E dL_law_499 ?_
          refine G.sld E X0 dL_law_500 (fun v62 => ?_)
          refine G.aload_n E dL_law_501 0 rfl rfl ?_
          refine G.iload E dL_law_502 4 rfl ?_
          refine G.iconst (v := 3) E dL_law_504 (by decide) ?_
          refine G.iadd E dL_law_505 ?_
          refine G.sld E X0 dL_law_506 (fun v63 => ?_)
          refine G.jn (P := fun j => ∀ (v64 : Int32), G p l e room_1 s m #[Value.ref b] below meth c 8 (cb + 0) (sb + 0) D (wsL cy h) (adL h) (fun _ : Unit => lw_Z below #[Value.ref b] s) 515 [(0, .ref b), (1, .ref (h 0)), (2, .ref (h 58)), (3, .ref (h 71)), (4, .int x4)] [.int v64, .int v62, .int v61, .ref (h 0)] s0 (j v64)) ?_ (fun j515 hj515 => ?_)
          · intro v64
            refine G.aload_n E dL_law_515 3 rfl rfl ?_
            refine G.callW (n := 5) (As := [.ref (h 0), .int v61, .int v62, .int v64, .ref (h 71)]) E dL_law_516 (fun _ _ hv => c_L_answer E.wf hfl hv) gL_law_L_answer rfl rfl rfl (by decide +kernel) ⟨(Nat.le_of_ble_eq_true rfl), (Nat.le_of_ble_eq_true rfl)⟩ rfl (Nat.le_of_ble_eq_true rfl) ⟨by simp only [room_1]; omega, by simp only [room_1]; omega⟩ (fun v65 s66 => ?_)
            refine G.istore (lv' := [(5, .int v65), (0, .ref b), (1, .ref (h 0)), (2, .ref (h 58)), (3, .ref (h 71)), (4, .int x4)]) E dL_law_519 (by decide) rfl ?_
            refine G.aload_n E dL_law_521 3 rfl rfl ?_
            refine G.aload_n E dL_law_522 1 rfl rfl ?_
            refine G.iload E dL_law_523 5 rfl ?_
            refine G.iconst (v := 1) E dL_law_525 (by decide) ?_
            refine G.iadd E dL_law_526 ?_
            refine G.sld E X0 dL_law_527 (fun v67 => ?_)
            refine G.aload_n E dL_law_528 1 rfl rfl ?_
            refine G.iload E dL_law_529 5 rfl ?_
            refine G.iconst (v := 2) E dL_law_531 (by decide) ?_
            refine G.iadd E dL_law_532 ?_
            refine G.sld E X0 dL_law_533 (fun v68 => ?_)
            refine G.aload_n E dL_law_534 1 rfl rfl ?_
            refine G.iload E dL_law_535 5 rfl ?_
            refine G.iconst (v := 3) E dL_law_537 (by decide) ?_
            refine G.iadd E dL_law_538 ?_
            refine G.sld E X0 dL_law_539 (fun v69 => ?_)
            refine G.jn (P := fun j => ∀ (v70 : Int32), G p l e room_1 s m #[Value.ref b] below meth c 8 (cb + 3) (sb + 18) D (wsL cy h) (adL h) (fun _ : Unit => lw_Z below #[Value.ref b] s) 548 [(0, .ref b), (1, .ref (h 0)), (2, .ref (h 58)), (3, .ref (h 71)), (4, .int x4), (5, .int v65)] [.int v70, .int v68, .int v67, .ref (h 58)] s66 (j v70)) ?_ (fun j548 hj548 => ?_)
            · intro v70
              refine G.callVls (mc := 0) (ms := 0) (rm := rm_X8_answer) (n := 3) (T := TX8) (N := 21) (C := RX8) (a := h 58) (q0 := 58) (As := [.int v67, .int v68, .int v70]) E dL_law_548 (fun _ _ hv => by obtain ⟨τ, hf, rfl⟩ := liM_some hv; exact Con.inM E.wf (c_X8_answer (wfL_M E.wf) hf)) gL_law_X8_answer rfl rfl rfl (by decide +kernel) ⟨(Nat.le_of_ble_eq_true rfl), (Nat.le_of_ble_eq_true rfl)⟩ ((wsL_at58 _ _ _).trans (wsM_at0 _ _ _)) rfl rfl (Nat.le_of_ble_eq_true rfl) ⟨by simp only [room_1]; omega, by simp only [room_1]; omega⟩ (fun v72 s71 => ?_)
              refine G.lstore (lv' := [(6, .long v72), (0, .ref b), (1, .ref (h 0)), (2, .ref (h 58)), (3, .ref (h 71)), (4, .int x4), (5, .int v65)]) E dL_law_551 (by decide) rfl ?_
              refine G.aload_n E dL_law_553 3 rfl rfl ?_
              refine G.callVi (mc := 0) (ms := 0) (rm := rm_X8_thrown) (n := 0) (T := TX8) (N := 21) (C := RX8) (a := h 58) (q0 := 58) (As := []) E dL_law_554 (fun _ hv => Con.inM E.wf (c_X8_thrown (wfL_M E.wf) hv)) gL_law_X8_thrown rfl rfl rfl (by decide +kernel) ⟨(Nat.le_of_ble_eq_true rfl), (Nat.le_of_ble_eq_true rfl)⟩ ((wsL_at58 _ _ _).trans (wsM_at0 _ _ _)) rfl rfl (Nat.le_of_ble_eq_true rfl) ⟨by simp only [room_1]; omega, by simp only [room_1]; omega⟩ (fun v73 => ?_)
              refine G.iload E dL_law_557 6 rfl ?_
              refine G.icmp_eq (tgt := 564) E dL_law_559 (by decide) ?_ ?_
              · refine G.iload E dL_law_564 6 rfl ?_
                refine G.jn (P := fun j => ∀ (_u : Unit), G p l e room_1 s m #[Value.ref b] below meth c 8 (cb + 3) (sb + 18) D (wsL cy h) (adL h) (fun _ : Unit => lw_Z below #[Value.ref b] s) 580 [(0, .ref b), (1, .ref (h 0)), (2, .ref (h 58)), (3, .ref (h 71)), (4, .int x4)] [] s71 (j _u)) ?_ (fun j580 hj580 => ?_)
                · intro _u
                  refine G.goto (tgt := 1309) E dL_law_580 (by decide) ?_
                  refine G.widen (k1 := cb + 8) (n1 := sb + 48) (by omega) (by omega) ?_
                  refine G.loc [0, 1, 2, 3, 4] rfl ?_
                  exact hj1309 s71
                · refine G.if_ne (tgt := 580) E dL_law_566 (by decide) ?_ ?_
                  · refine G.aload_n E dL_law_569 4 rfl rfl ?_
                    refine G.iconst (v := 0) E dL_law_570 (by decide) ?_
                    refine G.oald (q0 := 71) E dL_law_571 (wsL_at71 _ _ _) (fun v74 => ?_)
                    refine G.lload E dL_law_572 0 rfl ?_
                    refine G.lcmp E dL_law_574 ?_
                    refine G.if_eq (tgt := 580) E dL_law_575 (by decide) ?_ ?_
                    · refine G.loc [1, 2, 3, 4, 5] rfl ?_
                      exact hj580 ()
                    · refine G.iconst (v := 0) E dL_law_578 (by decide) ?_
                      exact G.no
                  · refine G.loc [1, 2, 3, 4, 5] rfl ?_
                    exact hj580 ()
              · refine G.iconst (v := 0) E dL_law_562 (by decide) ?_
                exact G.no
            · refine G.if_eq (tgt := 547) E dL_law_540 (by decide) ?_ ?_
              · refine G.iconst (v := 0) E dL_law_547 (by decide) ?_
                refine G.loc [1, 2, 3, 4, 5, 0] rfl ?_
                exact hj548 0
              · refine G.iconst (v := 1) E dL_law_543 (by decide) ?_
                refine G.goto (tgt := 548) E dL_law_544 (by decide) ?_
                refine G.loc [1, 2, 3, 4, 5, 0] rfl ?_
                exact hj548 1
          · refine G.if_eq (tgt := 514) E dL_law_507 (by decide) ?_ ?_
            · refine G.iconst (v := 0) E dL_law_514 (by decide) ?_
              refine G.loc [0, 1, 2, 3, 4] rfl ?_
              exact hj515 0
            · refine G.iconst (v := 1) E dL_law_510 (by decide) ?_
              refine G.goto (tgt := 515) E dL_law_511 (by decide) ?_
              refine G.loc [0, 1, 2, 3, 4] rfl ?_
              exact hj515 1
        refine G.swIn (c0 := 10) (tgt := 583) E dL_law_39 (by decide) (by decide) rfl (by decide) ?_ (fun n10 => ?_)
        · refine G.aload_n E dL_law_583 1 rfl rfl ?_
          refine G.aload_n E dL_law_584 0 rfl rfl ?_
          refine G.iload E dL_law_585 4 rfl ?_
          refine G.iconst (v := 1) E dL_law_587 (by decide) ?_
          refine G.iadd E dL_law_588 ?_
          refine G.sld E X0 dL_law_589 (fun v75 => ?_)
          refine G.aload_n E dL_law_590 0 rfl rfl ?_
          refine G.iload E dL_law_591 4 rfl ?_
          refine G.iconst (v := 2) E dL_law_593 (by decide) ?_
          refine G.iadd E dL_law_594 ?_
          refine G.sld E X0 dL_law_595 (fun v76 => ?_)
          refine G.callW (n := 3) (As := [.ref (h 0), .int v75, .int v76]) E dL_law_596 (fun _ _ hv => c_L_value E.wf hfl hv) gL_law_L_value rfl rfl rfl (by decide +kernel) ⟨(Nat.le_of_ble_eq_true rfl), (Nat.le_of_ble_eq_true rfl)⟩ rfl (Nat.le_of_ble_eq_true rfl) ⟨by simp only [room_1]; omega, by simp only [room_1]; omega⟩ (fun v77 s78 => ?_)
          refine G.istore (lv' := [(5, .int v77), (0, .ref b), (1, .ref (h 0)), (2, .ref (h 58)), (3, .ref (h 71)), (4, .int x4)]) E dL_law_599 (by decide) rfl ?_
          refine G.aload_n E dL_law_601 3 rfl rfl ?_
          refine G.aload_n E dL_law_602 1 rfl rfl ?_
          refine G.iload E dL_law_603 5 rfl ?_
          refine G.iconst (v := 1) E dL_law_605 (by decide) ?_
          refine G.iadd E dL_law_606 ?_
          refine G.sld E X0 dL_law_607 (fun v79 => ?_)
          refine G.aload_n E dL_law_608 1 rfl rfl ?_
          refine G.iload E dL_law_609 5 rfl ?_
          refine G.iconst (v := 2) E dL_law_611 (by decide) ?_
          refine G.iadd E dL_law_612 ?_
          refine G.sld E X0 dL_law_613 (fun v80 => ?_)
          refine G.callVv (mc := 0) (ms := 0) (rm := rm_X8_value) (n := 2) (T := TX8) (N := 21) (C := RX8) (a := h 58) (q0 := 58) (As := [.int v79, .int v80]) E dL_law_614 (fun _ hv => by obtain ⟨τ, hf, rfl⟩ := lvM_some hv; exact Con.inM E.wf (c_X8_value (wfL_M E.wf) hf)) gL_law_X8_value rfl rfl rfl (by decide +kernel) ⟨(Nat.le_of_ble_eq_true rfl), (Nat.le_of_ble_eq_true rfl)⟩ ((wsL_at58 _ _ _).trans (wsM_at0 _ _ _)) rfl rfl (Nat.le_of_ble_eq_true rfl) ⟨by simp only [room_1]; omega, by simp only [room_1]; omega⟩ (fun s81 => ?_)
          refine G.aload_n E dL_law_617 3 rfl rfl ?_
          refine G.callVi (mc := 0) (ms := 0) (rm := rm_X8_thrown) (n := 0) (T := TX8) (N := 21) (C := RX8) (a := h 58) (q0 := 58) (As := []) E dL_law_618 (fun _ hv => Con.inM E.wf (c_X8_thrown (wfL_M E.wf) hv)) gL_law_X8_thrown rfl rfl rfl (by decide +kernel) ⟨(Nat.le_of_ble_eq_true rfl), (Nat.le_of_ble_eq_true rfl)⟩ ((wsL_at58 _ _ _).trans (wsM_at0 _ _ _)) rfl rfl (Nat.le_of_ble_eq_true rfl) ⟨by simp only [room_1]; omega, by simp only [room_1]; omega⟩ (fun v82 => ?_)
          refine G.iload E dL_law_621 0 rfl ?_
          refine G.icmp_eq (tgt := 628) E dL_law_623 (by decide) ?_ ?_
          · refine G.goto (tgt := 1309) E dL_law_628 (by decide) ?_
            refine G.widen (k1 := cb + 8) (n1 := sb + 48) (by omega) (by omega) ?_
            refine G.loc [1, 2, 3, 4, 5] rfl ?_
            exact hj1309 s81
          · refine G.iconst (v := 0) E dL_law_626 (by decide) ?_
            exact G.no
        refine G.swIn (c0 := 11) (tgt := 631) E dL_law_39 (by decide) (by decide) rfl (by decide) ?_ (fun n11 => ?_)
        · refine G.aload_n E dL_law_631 1 rfl rfl ?_
          refine G.aload_n E dL_law_632 0 rfl rfl ?_
          refine G.iload E dL_law_633 4 rfl ?_
          refine G.iconst (v := 1) E dL_law_635 (by decide) ?_
          refine G.iadd E dL_law_636 ?_
          refine G.sld E X0 dL_law_637 (fun v83 => ?_)
          refine G.aload_n E dL_law_638 0 rfl rfl ?_
          refine G.iload E dL_law_639 4 rfl ?_
          refine G.iconst (v := 2) E dL_law_641 (by decide) ?_
          refine G.iadd E dL_law_642 ?_
          refine G.sld E X0 dL_law_643 (fun v84 => ?_)
          refine G.jn (P := fun j => ∀ (v85 : Int32), G p l e room_1 s m #[Value.ref b] below meth c 8 (cb + 0) (sb + 0) D (wsL cy h) (adL h) (fun _ : Unit => lw_Z below #[Value.ref b] s) 652 [(0, .ref b), (1, .ref (h 0)), (2, .ref (h 58)), (3, .ref (h 71)), (4, .int x4)] [.int v85, .int v83, .ref (h 0)] s0 (j v85)) ?_ (fun j652 hj652 => ?_)
          · intro v85
            refine G.aload_n E dL_law_652 3 rfl rfl ?_
            refine G.callW (n := 4) (As := [.ref (h 0), .int v83, .int v85, .ref (h 71)]) E dL_law_653 (fun _ _ hv => c_L_potential E.wf hfl hv) gL_law_L_potential rfl rfl rfl (by decide +kernel) ⟨(Nat.le_of_ble_eq_true rfl), (Nat.le_of_ble_eq_true rfl)⟩ rfl (Nat.le_of_ble_eq_true rfl) ⟨by simp only [room_1]; omega, by simp only [room_1]; omega⟩ (fun v86 s87 => ?_)
            refine G.istore (lv' := [(5, .int v86), (0, .ref b), (1, .ref (h 0)), (2, .ref (h 58)), (3, .ref (h 71)), (4, .int x4)]) E dL_law_656 (by decide) rfl ?_
            refine G.aload_n E dL_law_658 3 rfl rfl ?_
            refine G.aload_n E dL_law_659 1 rfl rfl ?_
            refine G.iload E dL_law_660 5 rfl ?_
            refine G.iconst (v := 1) E dL_law_662 (by decide) ?_
            refine G.iadd E dL_law_663 ?_
            refine G.sld E X0 dL_law_664 (fun v88 => ?_)
            refine G.aload_n E dL_law_665 1 rfl rfl ?_
            refine G.iload E dL_law_666 5 rfl ?_
            refine G.iconst (v := 2) E dL_law_668 (by decide) ?_
            refine G.iadd E dL_law_669 ?_
            refine G.sld E X0 dL_law_670 (fun v89 => ?_)
            refine G.jn (P := fun j => ∀ (v90 : Int32), G p l e room_1 s m #[Value.ref b] below meth c 8 (cb + 1) (sb + 6) D (wsL cy h) (adL h) (fun _ : Unit => lw_Z below #[Value.ref b] s) 679 [(0, .ref b), (1, .ref (h 0)), (2, .ref (h 58)), (3, .ref (h 71)), (4, .int x4), (5, .int v86)] [.int v90, .int v88, .ref (h 58)] s87 (j v90)) ?_ (fun j679 hj679 => ?_)
            · intro v90
              refine G.callVls (mc := 0) (ms := 0) (rm := rm_X8_potential) (n := 2) (T := TX8) (N := 21) (C := RX8) (a := h 58) (q0 := 58) (As := [.int v88, .int v90]) E dL_law_679 (fun _ _ hv => by obtain ⟨τ, hf, rfl⟩ := liM_some hv; exact Con.inM E.wf (c_X8_potential (wfL_M E.wf) hf)) gL_law_X8_potential rfl rfl rfl (by decide +kernel) ⟨(Nat.le_of_ble_eq_true rfl), (Nat.le_of_ble_eq_true rfl)⟩ ((wsL_at58 _ _ _).trans (wsM_at0 _ _ _)) rfl rfl (Nat.le_of_ble_eq_true rfl) ⟨by simp only [room_1]; omega, by simp only [room_1]; omega⟩ (fun v92 s91 => ?_)
              refine G.lstore (lv' := [(6, .long v92), (0, .ref b), (1, .ref (h 0)), (2, .ref (h 58)), (3, .ref (h 71)), (4, .int x4), (5, .int v86)]) E dL_law_682 (by decide) rfl ?_
              refine G.aload_n E dL_law_684 3 rfl rfl ?_
              refine G.callVi (mc := 0) (ms := 0) (rm := rm_X8_thrown) (n := 0) (T := TX8) (N := 21) (C := RX8) (a := h 58) (q0 := 58) (As := []) E dL_law_685 (fun _ hv => Con.inM E.wf (c_X8_thrown (wfL_M E.wf) hv)) gL_law_X8_thrown rfl rfl rfl (by decide +kernel) ⟨(Nat.le_of_ble_eq_true rfl), (Nat.le_of_ble_eq_true rfl)⟩ ((wsL_at58 _ _ _).trans (wsM_at0 _ _ _)) rfl rfl (Nat.le_of_ble_eq_true rfl) ⟨by simp only [room_1]; omega, by simp only [room_1]; omega⟩ (fun v93 => ?_)
              refine G.iload E dL_law_688 6 rfl ?_
              refine G.icmp_eq (tgt := 695) E dL_law_690 (by decide) ?_ ?_
              · refine G.iload E dL_law_695 6 rfl ?_
                refine G.jn (P := fun j => ∀ (_u : Unit), G p l e room_1 s m #[Value.ref b] below meth c 8 (cb + 1) (sb + 6) D (wsL cy h) (adL h) (fun _ : Unit => lw_Z below #[Value.ref b] s) 711 [(0, .ref b), (1, .ref (h 0)), (2, .ref (h 58)), (3, .ref (h 71)), (4, .int x4)] [] s91 (j _u)) ?_ (fun j711 hj711 => ?_)
                · intro _u
                  refine G.goto (tgt := 1309) E dL_law_711 (by decide) ?_
                  refine G.widen (k1 := cb + 8) (n1 := sb + 48) (by omega) (by omega) ?_
                  refine G.loc [0, 1, 2, 3, 4] rfl ?_
                  exact hj1309 s91
                · refine G.if_ne (tgt := 711) E dL_law_697 (by decide) ?_ ?_
                  · refine G.aload_n E dL_law_700 4 rfl rfl ?_
                    refine G.iconst (v := 0) E dL_law_701 (by decide) ?_
                    refine G.oald (q0 := 71) E dL_law_702 (wsL_at71 _ _ _) (fun v94 => ?_)
                    refine G.lload E dL_law_703 0 rfl ?_
                    refine G.lcmp E dL_law_705 ?_
                    refine G.if_eq (tgt := 711) E dL_law_706 (by decide) ?_ ?_
                    · refine G.loc [1, 2, 3, 4, 5] rfl ?_
                      exact hj711 ()
                    · refine G.iconst (v := 0) E dL_law_709 (by decide) ?_
                      exact G.no
                  · refine G.loc [1, 2, 3, 4, 5] rfl ?_
                    exact hj711 ()
              · refine G.iconst (v := 0) E dL_law_693 (by decide) ?_
                exact G.no
            · refine G.if_eq (tgt := 678) E dL_law_671 (by decide) ?_ ?_
              · refine G.iconst (v := 0) E dL_law_678 (by decide) ?_
                refine G.loc [1, 2, 3, 4, 5, 0] rfl ?_
                exact hj679 0
              · refine G.iconst (v := 1) E dL_law_674 (by decide) ?_
                refine G.goto (tgt := 679) E dL_law_675 (by decide) ?_
                refine G.loc [1, 2, 3, 4, 5, 0] rfl ?_
                exact hj679 1
          · refine G.if_eq (tgt := 651) E dL_law_644 (by decide) ?_ ?_
            · refine G.iconst (v := 0) E dL_law_651 (by decide) ?_
              refine G.loc [0, 1, 2, 3, 4] rfl ?_
              exact hj652 0
            · refine G.iconst (v := 1) E dL_law_647 (by decide) ?_
              refine G.goto (tgt := 652) E dL_law_648 (by decide) ?_
              refine G.loc [0, 1, 2, 3, 4] rfl ?_
              exact hj652 1
        refine G.swIn (c0 := 12) (tgt := 714) E dL_law_39 (by decide) (by decide) rfl (by decide) ?_ (fun n12 => ?_)
        · refine G.aload_n E dL_law_714 1 rfl rfl ?_
          refine G.aload_n E dL_law_715 0 rfl rfl ?_
          refine G.iload E dL_law_716 4 rfl ?_
          refine G.iconst (v := 1) E dL_law_718 (by decide) ?_
          refine G.iadd E dL_law_719 ?_
          refine G.sld E X0 dL_law_720 (fun v95 => ?_)
          refine G.aload_n E dL_law_721 0 rfl rfl ?_
          refine G.iload E dL_law_722 4 rfl ?_
          refine G.iconst (v := 2) E dL_law_724 (by decide) ?_
          refine G.iadd E dL_law_725 ?_
          refine G.sld E X0 dL_law_726 (fun v96 => ?_)
          refine G.jn (P := fun j => ∀ (v97 : Int32), G p l e room_1 s m #[Value.ref b] below meth c 8 (cb + 0) (sb + 0) D (wsL cy h) (adL h) (fun _ : Unit => lw_Z below #[Value.ref b] s) 735 [(0, .ref b), (1, .ref (h 0)), (2, .ref (h 58)), (3, .ref (h 71)), (4, .int x4)] [.int v97, .int v95, .ref (h 0)] s0 (j v97)) ?_ (fun j735 hj735 => ?_)
          · intro v97
            refine G.aload_n E dL_law_735 3 rfl rfl ?_
            refine G.callW (n := 4) (As := [.ref (h 0), .int v95, .int v97, .ref (h 71)]) E dL_law_736 (fun _ _ hv => c_L_current E.wf hfl hv) gL_law_L_current rfl rfl rfl (by decide +kernel) ⟨(Nat.le_of_ble_eq_true rfl), (Nat.le_of_ble_eq_true rfl)⟩ rfl (Nat.le_of_ble_eq_true rfl) ⟨by simp only [room_1]; omega, by simp only [room_1]; omega⟩ (fun v98 s99 => ?_)
            refine G.istore (lv' := [(5, .int v98), (0, .ref b), (1, .ref (h 0)), (2, .ref (h 58)), (3, .ref (h 71)), (4, .int x4)]) E dL_law_739 (by decide) rfl ?_
            refine G.aload_n E dL_law_741 3 rfl rfl ?_
            refine G.aload_n E dL_law_742 1 rfl rfl ?_
            refine G.iload E dL_law_743 5 rfl ?_
            refine G.iconst (v := 1) E dL_law_745 (by decide) ?_
            refine G.iadd E dL_law_746 ?_
            refine G.sld E X0 dL_law_747 (fun v100 => ?_)
            refine G.aload_n E dL_law_748 1 rfl rfl ?_
            refine G.iload E dL_law_749 5 rfl ?_
            refine G.iconst (v := 2) E dL_law_751 (by decide) ?_
            refine G.iadd E dL_law_752 ?_
            refine G.sld E X0 dL_law_753 (fun v101 => ?_)
            refine G.jn (P := fun j => ∀ (v102 : Int32), G p l e room_1 s m #[Value.ref b] below meth c 8 (cb + 1) (sb + 6) D (wsL cy h) (adL h) (fun _ : Unit => lw_Z below #[Value.ref b] s) 762 [(0, .ref b), (1, .ref (h 0)), (2, .ref (h 58)), (3, .ref (h 71)), (4, .int x4), (5, .int v98)] [.int v102, .int v100, .ref (h 58)] s99 (j v102)) ?_ (fun j762 hj762 => ?_)
            · intro v102
              refine G.callVls (mc := 0) (ms := 0) (rm := rm_X8_current) (n := 2) (T := TX8) (N := 21) (C := RX8) (a := h 58) (q0 := 58) (As := [.int v100, .int v102]) E dL_law_762 (fun _ _ hv => by obtain ⟨τ, hf, rfl⟩ := liM_some hv; exact Con.inM E.wf (c_X8_current (wfL_M E.wf) hf)) gL_law_X8_current rfl rfl rfl (by decide +kernel) ⟨(Nat.le_of_ble_eq_true rfl), (Nat.le_of_ble_eq_true rfl)⟩ ((wsL_at58 _ _ _).trans (wsM_at0 _ _ _)) rfl rfl (Nat.le_of_ble_eq_true rfl) ⟨by simp only [room_1]; omega, by simp only [room_1]; omega⟩ (fun v104 s103 => ?_)
              refine G.lstore (lv' := [(6, .long v104), (0, .ref b), (1, .ref (h 0)), (2, .ref (h 58)), (3, .ref (h 71)), (4, .int x4), (5, .int v98)]) E dL_law_765 (by decide) rfl ?_
              refine G.aload_n E dL_law_767 3 rfl rfl ?_
              refine G.callVi (mc := 0) (ms := 0) (rm := rm_X8_thrown) (n := 0) (T := TX8) (N := 21) (C := RX8) (a := h 58) (q0 := 58) (As := []) E dL_law_768 (fun _ hv => Con.inM E.wf (c_X8_thrown (wfL_M E.wf) hv)) gL_law_X8_thrown rfl rfl rfl (by decide +kernel) ⟨(Nat.le_of_ble_eq_true rfl), (Nat.le_of_ble_eq_true rfl)⟩ ((wsL_at58 _ _ _).trans (wsM_at0 _ _ _)) rfl rfl (Nat.le_of_ble_eq_true rfl) ⟨by simp only [room_1]; omega, by simp only [room_1]; omega⟩ (fun v105 => ?_)
              refine G.iload E dL_law_771 6 rfl ?_
              refine G.icmp_eq (tgt := 778) E dL_law_773 (by decide) ?_ ?_
              · refine G.iload E dL_law_778 6 rfl ?_
                refine G.jn (P := fun j => ∀ (_u : Unit), G p l e room_1 s m #[Value.ref b] below meth c 8 (cb + 1) (sb + 6) D (wsL cy h) (adL h) (fun _ : Unit => lw_Z below #[Value.ref b] s) 794 [(0, .ref b), (1, .ref (h 0)), (2, .ref (h 58)), (3, .ref (h 71)), (4, .int x4)] [] s103 (j _u)) ?_ (fun j794 hj794 => ?_)
                · intro _u
                  refine G.goto (tgt := 1309) E dL_law_794 (by decide) ?_
                  refine G.widen (k1 := cb + 8) (n1 := sb + 48) (by omega) (by omega) ?_
                  refine G.loc [0, 1, 2, 3, 4] rfl ?_
                  exact hj1309 s103
                · refine G.if_ne (tgt := 794) E dL_law_780 (by decide) ?_ ?_
                  · refine G.aload_n E dL_law_783 4 rfl rfl ?_
                    refine G.iconst (v := 0) E dL_law_784 (by decide) ?_
                    refine G.oald (q0 := 71) E dL_law_785 (wsL_at71 _ _ _) (fun v106 => ?_)
                    refine G.lload E dL_law_786 0 rfl ?_
                    refine G.lcmp E dL_law_788 ?_
                    refine G.if_eq (tgt := 794) E dL_law_789 (by decide) ?_ ?_
                    · refine G.loc [1, 2, 3, 4, 5] rfl ?_
                      exact hj794 ()
                    · refine G.iconst (v := 0) E dL_law_792 (by decide) ?_
                      exact G.no
                  · refine G.loc [1, 2, 3, 4, 5] rfl ?_
                    exact hj794 ()
              · refine G.iconst (v := 0) E dL_law_776 (by decide) ?_
                exact G.no
            · refine G.if_eq (tgt := 761) E dL_law_754 (by decide) ?_ ?_
              · refine G.iconst (v := 0) E dL_law_761 (by decide) ?_
                refine G.loc [1, 2, 3, 4, 5, 0] rfl ?_
                exact hj762 0
              · refine G.iconst (v := 1) E dL_law_757 (by decide) ?_
                refine G.goto (tgt := 762) E dL_law_758 (by decide) ?_
                refine G.loc [1, 2, 3, 4, 5, 0] rfl ?_
                exact hj762 1
          · refine G.if_eq (tgt := 734) E dL_law_727 (by decide) ?_ ?_
            · refine G.iconst (v := 0) E dL_law_734 (by decide) ?_
              refine G.loc [0, 1, 2, 3, 4] rfl ?_
              exact hj735 0
            · refine G.iconst (v := 1) E dL_law_730 (by decide) ?_
              refine G.goto (tgt := 735) E dL_law_731 (by decide) ?_
              refine G.loc [0, 1, 2, 3, 4] rfl ?_
              exact hj735 1
        refine G.swIn (c0 := 13) (tgt := 797) E dL_law_39 (by decide) (by decide) rfl (by decide) ?_ (fun n13 => ?_)
        · refine G.aload_n E dL_law_797 1 rfl rfl ?_
          refine G.aload_n E dL_law_798 0 rfl rfl ?_
          refine G.iload E dL_law_799 4 rfl ?_
          refine G.iconst (v := 1) E dL_law_801 (by decide) ?_
          refine G.iadd E dL_law_802 ?_
          refine G.sld E X0 dL_law_803 (fun v107 => ?_)
          refine G.jn (P := fun j => ∀ (v108 : Int32), G p l e room_1 s m #[Value.ref b] below meth c 8 (cb + 0) (sb + 0) D (wsL cy h) (adL h) (fun _ : Unit => lw_Z below #[Value.ref b] s) 812 [(0, .ref b), (1, .ref (h 0)), (2, .ref (h 58)), (3, .ref (h 71)), (4, .int x4)] [.int v108, .ref (h 0)] s0 (j v108)) ?_ (fun j812 hj812 => ?_)
          · intro v108
            refine G.callVls (mc := 0) (ms := 0) (rm := rm_X7_power) (n := 1) (T := TX7) (N := 7) (C := RX7) (a := h 0) (q0 := 0) (As := [.int v108]) E dL_law_812 (fun _ _ hv => by obtain ⟨τ, hf, rfl⟩ := liC_some hv; exact Con.inC E.wf (c_X7_power (wfL_C E.wf) hf)) gL_law_X7_power rfl rfl rfl (by decide +kernel) ⟨(Nat.le_of_ble_eq_true rfl), (Nat.le_of_ble_eq_true rfl)⟩ ((wsL_at0 _ _ _).trans (wsC_at0 _ _ _)) rfl rfl (Nat.le_of_ble_eq_true rfl) ⟨by simp only [room_1]; omega, by simp only [room_1]; omega⟩ (fun v110 s109 => ?_)
            refine G.aload_n E dL_law_815 2 rfl rfl ?_
            refine G.aload_n E dL_law_816 0 rfl rfl ?_
            refine G.iload E dL_law_817 4 rfl ?_
            refine G.iconst (v := 1) E dL_law_819 (by decide) ?_
            refine G.iadd E dL_law_820 ?_
            refine G.sld E X0 dL_law_821 (fun v111 => ?_)
            refine G.jn (P := fun j => ∀ (v112 : Int32), G p l e room_1 s m #[Value.ref b] below meth c 8 (cb + 0) (sb + 0) D (wsL cy h) (adL h) (fun _ : Unit => lw_Z below #[Value.ref b] s) 830 [(0, .ref b), (1, .ref (h 0)), (2, .ref (h 58)), (3, .ref (h 71)), (4, .int x4)] [.int v112, .ref (h 58), .long v110] s109 (j v112)) ?_ (fun j830 hj830 => ?_)
            · intro v112
              refine G.callVls (mc := 0) (ms := 0) (rm := rm_X8_power) (n := 1) (T := TX8) (N := 21) (C := RX8) (a := h 58) (q0 := 58) (As := [.int v112]) E dL_law_830 (fun _ _ hv => by obtain ⟨τ, hf, rfl⟩ := liM_some hv; exact Con.inM E.wf (c_X8_power (wfL_M E.wf) hf)) gL_law_X8_power rfl rfl rfl (by decide +kernel) ⟨(Nat.le_of_ble_eq_true rfl), (Nat.le_of_ble_eq_true rfl)⟩ ((wsL_at58 _ _ _).trans (wsM_at0 _ _ _)) rfl rfl (Nat.le_of_ble_eq_true rfl) ⟨by simp only [room_1]; omega, by simp only [room_1]; omega⟩ (fun v114 s113 => ?_)
              refine G.lcmp E dL_law_833 ?_
              refine G.if_eq (tgt := 1309) E dL_law_834 (by decide) ?_ ?_
              · refine G.widen (k1 := cb + 8) (n1 := sb + 48) (by omega) (by omega) ?_
                refine G.loc [0, 1, 2, 3, 4] rfl ?_
                exact hj1309 s113
              · refine G.iconst (v := 0) E dL_law_837 (by decide) ?_
                exact G.no
            · refine G.if_eq (tgt := 829) E dL_law_822 (by decide) ?_ ?_
              · refine G.iconst (v := 0) E dL_law_829 (by decide) ?_
                refine G.loc [0, 1, 2, 3, 4] rfl ?_
                exact hj830 0
              · refine G.iconst (v := 1) E dL_law_825 (by decide) ?_
                refine G.goto (tgt := 830) E dL_law_826 (by decide) ?_
                refine G.loc [0, 1, 2, 3, 4] rfl ?_
                exact hj830 1
          · refine G.if_eq (tgt := 811) E dL_law_804 (by decide) ?_ ?_
            · refine G.iconst (v := 0) E dL_law_811 (by decide) ?_
              refine G.loc [0, 1, 2, 3, 4] rfl ?_
              exact hj812 0
            · refine G.iconst (v := 1) E dL_law_807 (by decide) ?_
              refine G.goto (tgt := 812) E dL_law_808 (by decide) ?_
              refine G.loc [0, 1, 2, 3, 4] rfl ?_
              exact hj812 1
        refine G.swIn (c0 := 14) (tgt := 839) E dL_law_39 (by decide) (by decide) rfl (by decide) ?_ (fun n14 => ?_)
        · refine G.aload_n E dL_law_839 1 rfl rfl ?_
          refine G.aload_n E dL_law_840 0 rfl rfl ?_
          refine G.iload E dL_law_841 4 rfl ?_
          refine G.iconst (v := 1) E dL_law_843 (by decide) ?_
          refine G.iadd E dL_law_844 ?_
          refine G.sld E X0 dL_law_845 (fun v115 => ?_)
          refine G.aload_n E dL_law_846 0 rfl rfl ?_
          refine G.iload E dL_law_847 4 rfl ?_
          refine G.iconst (v := 2) E dL_law_849 (by decide) ?_
          refine G.iadd E dL_law_850 ?_
          refine G.sld E X0 dL_law_851 (fun v116 => ?_)
          refine G.aload_n E dL_law_852 0 rfl rfl ?_
          refine G.iload E dL_law_853 4 rfl ?_
          refine G.iconst (v := 3) E dL_law_855 (by decide) ?_
          refine G.iadd E dL_law_856 ?_
          refine G.sld E X0 dL_law_857 (fun v117 => ?_)
          refine G.jn (P := fun j => ∀ (v118 : Int32), G p l e room_1 s m #[Value.ref b] below meth c 8 (cb + 0) (sb + 0) D (wsL cy h) (adL h) (fun _ : Unit => lw_Z below #[Value.ref b] s) 866 [(0, .ref b), (1, .ref (h 0)), (2, .ref (h 58)), (3, .ref (h 71)), (4, .int x4)] [.int v118, .int v116, .int v115, .ref (h 0)] s0 (j v118)) ?_ (fun j866 hj866 => ?_)
          · intro v118
            refine G.aload_n E dL_law_866 3 rfl rfl ?_
            refine G.callW (n := 5) (As := [.ref (h 0), .int v115, .int v116, .int v118, .ref (h 71)]) E dL_law_867 (fun _ _ hv => c_L_distance E.wf hfl hv) gL_law_L_distance rfl rfl rfl (by decide +kernel) ⟨(Nat.le_of_ble_eq_true rfl), (Nat.le_of_ble_eq_true rfl)⟩ rfl (Nat.le_of_ble_eq_true rfl) ⟨by simp only [room_1]; omega, by simp only [room_1]; omega⟩ (fun v119 s120 => ?_)
            refine G.istore (lv' := [(5, .int v119), (0, .ref b), (1, .ref (h 0)), (2, .ref (h 58)), (3, .ref (h 71)), (4, .int x4)]) E dL_law_870 (by decide) rfl ?_
            refine G.aload_n E dL_law_872 3 rfl rfl ?_
            refine G.aload_n E dL_law_873 1 rfl rfl ?_
            refine G.iload E dL_law_874 5 rfl ?_
            refine G.iconst (v := 1) E dL_law_876 (by decide) ?_
            refine G.iadd E dL_law_877 ?_
            refine G.sld E X0 dL_law_878 (fun v121 => ?_)
            refine G.aload_n E dL_law_879 1 rfl rfl ?_
            refine G.iload E dL_law_880 5 rfl ?_
            refine G.iconst (v := 2) E dL_law_882 (by decide) ?_
            refine G.iadd E dL_law_883 ?_
            refine G.sld E X0 dL_law_884 (fun v122 => ?_)
            refine G.aload_n E dL_law_885 1 rfl rfl ?_
            refine G.iload E dL_law_886 5 rfl ?_
            refine G.iconst (v := 3) E dL_law_888 (by decide) ?_
            refine G.iadd E dL_law_889 ?_
            refine G.sld E X0 dL_law_890 (fun v123 => ?_)
            refine G.jn (P := fun j => ∀ (v124 : Int32), G p l e room_1 s m #[Value.ref b] below meth c 8 (cb + 2) (sb + 12) D (wsL cy h) (adL h) (fun _ : Unit => lw_Z below #[Value.ref b] s) 899 [(0, .ref b), (1, .ref (h 0)), (2, .ref (h 58)), (3, .ref (h 71)), (4, .int x4), (5, .int v119)] [.int v124, .int v122, .int v121, .ref (h 58)] s120 (j v124)) ?_ (fun j899 hj899 => ?_)
            · intro v124
              refine G.callVls (mc := 0) (ms := 0) (rm := rm_X8_distance) (n := 3) (T := TX8) (N := 21) (C := RX8) (a := h 58) (q0 := 58) (As := [.int v121, .int v122, .int v124]) E dL_law_899 (fun _ _ hv => by obtain ⟨τ, hf, rfl⟩ := liM_some hv; exact Con.inM E.wf (c_X8_distance (wfL_M E.wf) hf)) gL_law_X8_distance rfl rfl rfl (by decide +kernel) ⟨(Nat.le_of_ble_eq_true rfl), (Nat.le_of_ble_eq_true rfl)⟩ ((wsL_at58 _ _ _).trans (wsM_at0 _ _ _)) rfl rfl (Nat.le_of_ble_eq_true rfl) ⟨by simp only [room_1]; omega, by simp only [room_1]; omega⟩ (fun v126 s125 => ?_)
              refine G.lstore (lv' := [(6, .long v126), (0, .ref b), (1, .ref (h 0)), (2, .ref (h 58)), (3, .ref (h 71)), (4, .int x4), (5, .int v119)]) E dL_law_902 (by decide) rfl ?_
              refine G.aload_n E dL_law_904 3 rfl rfl ?_
              refine G.callVi (mc := 0) (ms := 0) (rm := rm_X8_thrown) (n := 0) (T := TX8) (N := 21) (C := RX8) (a := h 58) (q0 := 58) (As := []) E dL_law_905 (fun _ hv => Con.inM E.wf (c_X8_thrown (wfL_M E.wf) hv)) gL_law_X8_thrown rfl rfl rfl (by decide +kernel) ⟨(Nat.le_of_ble_eq_true rfl), (Nat.le_of_ble_eq_true rfl)⟩ ((wsL_at58 _ _ _).trans (wsM_at0 _ _ _)) rfl rfl (Nat.le_of_ble_eq_true rfl) ⟨by simp only [room_1]; omega, by simp only [room_1]; omega⟩ (fun v127 => ?_)
              refine G.iload E dL_law_908 6 rfl ?_
              refine G.icmp_eq (tgt := 915) E dL_law_910 (by decide) ?_ ?_
              · refine G.iload E dL_law_915 6 rfl ?_
                refine G.jn (P := fun j => ∀ (_u : Unit), G p l e room_1 s m #[Value.ref b] below meth c 8 (cb + 2) (sb + 12) D (wsL cy h) (adL h) (fun _ : Unit => lw_Z below #[Value.ref b] s) 931 [(0, .ref b), (1, .ref (h 0)), (2, .ref (h 58)), (3, .ref (h 71)), (4, .int x4)] [] s125 (j _u)) ?_ (fun j931 hj931 => ?_)
                · intro _u
                  refine G.goto (tgt := 1309) E dL_law_931 (by decide) ?_
                  refine G.widen (k1 := cb + 8) (n1 := sb + 48) (by omega) (by omega) ?_
                  refine G.loc [0, 1, 2, 3, 4] rfl ?_
                  exact hj1309 s125
                · refine G.if_ne (tgt := 931) E dL_law_917 (by decide) ?_ ?_
                  · refine G.aload_n E dL_law_920 4 rfl rfl ?_
                    refine G.iconst (v := 0) E dL_law_921 (by decide) ?_
                    refine G.oald (q0 := 71) E dL_law_922 (wsL_at71 _ _ _) (fun v128 => ?_)
                    refine G.lload E dL_law_923 0 rfl ?_
                    refine G.lcmp E dL_law_925 ?_
                    refine G.if_eq (tgt := 931) E dL_law_926 (by decide) ?_ ?_
                    · refine G.loc [1, 2, 3, 4, 5] rfl ?_
                      exact hj931 ()
                    · refine G.iconst (v := 0) E dL_law_929 (by decide) ?_
                      exact G.no
                  · refine G.loc [1, 2, 3, 4, 5] rfl ?_
                    exact hj931 ()
              · refine G.iconst (v := 0) E dL_law_913 (by decide) ?_
                exact G.no
            · refine G.if_eq (tgt := 898) E dL_law_891 (by decide) ?_ ?_
              · refine G.iconst (v := 0) E dL_law_898 (by decide) ?_
                refine G.loc [1, 2, 3, 4, 5, 0] rfl ?_
                exact hj899 0
              · refine G.iconst (v := 1) E dL_law_894 (by decide) ?_
                refine G.goto (tgt := 899) E dL_law_895 (by decide) ?_
                refine G.loc [1, 2, 3, 4, 5, 0] rfl ?_
                exact hj899 1
          · refine G.if_eq (tgt := 865) E dL_law_858 (by decide) ?_ ?_
            · refine G.iconst (v := 0) E dL_law_865 (by decide) ?_
              refine G.loc [0, 1, 2, 3, 4] rfl ?_
              exact hj866 0
            · refine G.iconst (v := 1) E dL_law_861 (by decide) ?_
              refine G.goto (tgt := 866) E dL_law_862 (by decide) ?_
              refine G.loc [0, 1, 2, 3, 4] rfl ?_
              exact hj866 1
        refine G.swIn (c0 := 15) (tgt := 934) E dL_law_39 (by decide) (by decide) rfl (by decide) ?_ (fun n15 => ?_)
        · refine G.aload_n E dL_law_934 1 rfl rfl ?_
          refine G.aload_n E dL_law_935 0 rfl rfl ?_
          refine G.iload E dL_law_936 4 rfl ?_
          refine G.iconst (v := 1) E dL_law_938 (by decide) ?_
          refine G.iadd E dL_law_939 ?_
          refine G.sld E X0 dL_law_940 (fun v129 => ?_)
          refine G.aload_n E dL_law_941 0 rfl rfl ?_
          refine G.iload E dL_law_942 4 rfl ?_
          refine G.iconst (v := 2) E dL_law_944 (by decide) ?_
          refine G.iadd E dL_law_945 ?_
          refine G.sld E X0 dL_law_946 (fun v130 => ?_)
          refine G.aload_n E dL_law_947 0 rfl rfl ?_
          refine G.iload E dL_law_948 4 rfl ?_
          refine G.iconst (v := 3) E dL_law_950 (by decide) ?_
          refine G.iadd E dL_law_951 ?_
          refine G.sld E X0 dL_law_952 (fun v131 => ?_)
          refine G.aload_n E dL_law_953 0 rfl rfl ?_
          refine G.iload E dL_law_954 4 rfl ?_
          refine G.iconst (v := 4) E dL_law_956 (by decide) ?_
          refine G.iadd E dL_law_957 ?_
          refine G.sld E X0 dL_law_958 (fun v132 => ?_)
          refine G.jn (P := fun j => ∀ (v133 : Int32), G p l e room_1 s m #[Value.ref b] below meth c 8 (cb + 0) (sb + 0) D (wsL cy h) (adL h) (fun _ : Unit => lw_Z below #[Value.ref b] s) 967 [(0, .ref b), (1, .ref (h 0)), (2, .ref (h 58)), (3, .ref (h 71)), (4, .int x4)] [.int v133, .int v131, .int v130, .int v129, .ref (h 0)] s0 (j v133)) ?_ (fun j967 hj967 => ?_)
          · intro v133
            refine G.aload_n E dL_law_967 3 rfl rfl ?_
            refine G.callW (n := 6) (As := [.ref (h 0), .int v129, .int v130, .int v131, .int v133, .ref (h 71)]) E dL_law_968 (fun _ _ hv => c_L_chance E.wf hfl hv) gL_law_L_chance rfl rfl rfl (by decide +kernel) ⟨(Nat.le_of_ble_eq_true rfl), (Nat.le_of_ble_eq_true rfl)⟩ rfl (Nat.le_of_ble_eq_true rfl) ⟨by simp only [room_1]; omega, by simp only [room_1]; omega⟩ (fun v134 s135 => ?_)
            refine G.istore (lv' := [(5, .int v134), (0, .ref b), (1, .ref (h 0)), (2, .ref (h 58)), (3, .ref (h 71)), (4, .int x4)]) E dL_law_971 (by decide) rfl ?_
            refine G.aload_n E dL_law_973 3 rfl rfl ?_
            refine G.aload_n E dL_law_974 1 rfl rfl ?_
            refine G.iload E dL_law_975 5 rfl ?_
            refine G.iconst (v := 1) E dL_law_977 (by decide) ?_
            refine G.iadd E dL_law_978 ?_
            refine G.sld E X0 dL_law_979 (fun v136 => ?_)
            refine G.aload_n E dL_law_980 1 rfl rfl ?_
            refine G.iload E dL_law_981 5 rfl ?_
            refine G.iconst (v := 2) E dL_law_983 (by decide) ?_
            refine G.iadd E dL_law_984 ?_
            refine G.sld E X0 dL_law_985 (fun v137 => ?_)
            refine G.aload_n E dL_law_986 1 rfl rfl ?_
            refine G.iload E dL_law_987 5 rfl ?_
            refine G.iconst (v := 3) E dL_law_989 (by decide) ?_
            refine G.iadd E dL_law_990 ?_
            refine G.sld E X0 dL_law_991 (fun v138 => ?_)
            refine G.aload_n E dL_law_992 1 rfl rfl ?_
            refine G.iload E dL_law_993 5 rfl ?_
            refine G.iconst (v := 4) E dL_law_995 (by decide) ?_
            refine G.iadd E dL_law_996 ?_
            refine G.sld E X0 dL_law_997 (fun v139 => ?_)
            refine G.jn (P := fun j => ∀ (v140 : Int32), G p l e room_1 s m #[Value.ref b] below meth c 8 (cb + 4) (sb + 24) D (wsL cy h) (adL h) (fun _ : Unit => lw_Z below #[Value.ref b] s) 1006 [(0, .ref b), (1, .ref (h 0)), (2, .ref (h 58)), (3, .ref (h 71)), (4, .int x4), (5, .int v134)] [.int v140, .int v138, .int v137, .int v136, .ref (h 58)] s135 (j v140)) ?_ (fun j1006 hj1006 => ?_)
            · intro v140
              refine G.callVls (mc := 0) (ms := 0) (rm := rm_X8_chance) (n := 4) (T := TX8) (N := 21) (C := RX8) (a := h 58) (q0 := 58) (As := [.int v136, .int v137, .int v138, .int v140]) E dL_law_1006 (fun _ _ hv => by obtain ⟨τ, hf, rfl⟩ := liM_some hv; exact Con.inM E.wf (c_X8_chance (wfL_M E.wf) hf)) gL_law_X8_chance rfl rfl rfl (by decide +kernel) ⟨(Nat.le_of_ble_eq_true rfl), (Nat.le_of_ble_eq_true rfl)⟩ ((wsL_at58 _ _ _).trans (wsM_at0 _ _ _)) rfl rfl (Nat.le_of_ble_eq_true rfl) ⟨by simp only [room_1]; omega, by simp only [room_1]; omega⟩ (fun v142 s141 => ?_)
              refine G.lstore (lv' := [(6, .long v142), (0, .ref b), (1, .ref (h 0)), (2, .ref (h 58)), (3, .ref (h 71)), (4, .int x4), (5, .int v134)]) E dL_law_1009 (by decide) rfl ?_
              refine G.aload_n E dL_law_1011 3 rfl rfl ?_
              refine G.callVi (mc := 0) (ms := 0) (rm := rm_X8_thrown) (n := 0) (T := TX8) (N := 21) (C := RX8) (a := h 58) (q0 := 58) (As := []) E dL_law_1012 (fun _ hv => Con.inM E.wf (c_X8_thrown (wfL_M E.wf) hv)) gL_law_X8_thrown rfl rfl rfl (by decide +kernel) ⟨(Nat.le_of_ble_eq_true rfl), (Nat.le_of_ble_eq_true rfl)⟩ ((wsL_at58 _ _ _).trans (wsM_at0 _ _ _)) rfl rfl (Nat.le_of_ble_eq_true rfl) ⟨by simp only [room_1]; omega, by simp only [room_1]; omega⟩ (fun v143 => ?_)
              refine G.iload E dL_law_1015 6 rfl ?_
              refine G.icmp_eq (tgt := 1022) E dL_law_1017 (by decide) ?_ ?_
              · refine G.iload E dL_law_1022 6 rfl ?_
                refine G.jn (P := fun j => ∀ (_u : Unit), G p l e room_1 s m #[Value.ref b] below meth c 8 (cb + 4) (sb + 24) D (wsL cy h) (adL h) (fun _ : Unit => lw_Z below #[Value.ref b] s) 1038 [(0, .ref b), (1, .ref (h 0)), (2, .ref (h 58)), (3, .ref (h 71)), (4, .int x4)] [] s141 (j _u)) ?_ (fun j1038 hj1038 => ?_)
                · intro _u
                  refine G.goto (tgt := 1309) E dL_law_1038 (by decide) ?_
                  refine G.widen (k1 := cb + 8) (n1 := sb + 48) (by omega) (by omega) ?_
                  refine G.loc [0, 1, 2, 3, 4] rfl ?_
                  exact hj1309 s141
                · refine G.if_ne (tgt := 1038) E dL_law_1024 (by decide) ?_ ?_
                  · refine G.aload_n E dL_law_1027 4 rfl rfl ?_
                    refine G.iconst (v := 0) E dL_law_1028 (by decide) ?_
                    refine G.oald (q0 := 71) E dL_law_1029 (wsL_at71 _ _ _) (fun v144 => ?_)
                    refine G.lload E dL_law_1030 0 rfl ?_
                    refine G.lcmp E dL_law_1032 ?_
                    refine G.if_eq (tgt := 1038) E dL_law_1033 (by decide) ?_ ?_
                    · refine G.loc [1, 2, 3, 4, 5] rfl ?_
                      exact hj1038 ()
                    · refine G.iconst (v := 0) E dL_law_1036 (by decide) ?_
                      exact G.no
                  · refine G.loc [1, 2, 3, 4, 5] rfl ?_
                    exact hj1038 ()
              · refine G.iconst (v := 0) E dL_law_1020 (by decide) ?_
                exact G.no
            · refine G.if_eq (tgt := 1005) E dL_law_998 (by decide) ?_ ?_
              · refine G.iconst (v := 0) E dL_law_1005 (by decide) ?_
                refine G.loc [1, 2, 3, 4, 5, 0] rfl ?_
                exact hj1006 0
              · refine G.iconst (v := 1) E dL_law_1001 (by decide) ?_
                refine G.goto (tgt := 1006) E dL_law_1002 (by decide) ?_
                refine G.loc [1, 2, 3, 4, 5, 0] rfl ?_
                exact hj1006 1
          · refine G.if_eq (tgt := 966) E dL_law_959 (by decide) ?_ ?_
            · refine G.iconst (v := 0) E dL_law_966 (by decide) ?_
              refine G.loc [0, 1, 2, 3, 4] rfl ?_
              exact hj967 0
            · refine G.iconst (v := 1) E dL_law_962 (by decide) ?_
              refine G.goto (tgt := 967) E dL_law_963 (by decide) ?_
              refine G.loc [0, 1, 2, 3, 4] rfl ?_
              exact hj967 1
        refine G.swIn (c0 := 16) (tgt := 1041) E dL_law_39 (by decide) (by decide) rfl (by decide) ?_ (fun n16 => ?_)
        · refine G.aload_n E dL_law_1041 1 rfl rfl ?_
          refine G.aload_n E dL_law_1042 0 rfl rfl ?_
          refine G.iload E dL_law_1043 4 rfl ?_
          refine G.iconst (v := 1) E dL_law_1045 (by decide) ?_
          refine G.iadd E dL_law_1046 ?_
          refine G.sld E X0 dL_law_1047 (fun v145 => ?_)
          refine G.aload_n E dL_law_1048 3 rfl rfl ?_
          refine G.callW (n := 3) (As := [.ref (h 0), .int v145, .ref (h 71)]) E dL_law_1049 (fun _ _ hv => c_L_erased E.wf hfl hv) gL_law_L_erased rfl rfl rfl (by decide +kernel) ⟨(Nat.le_of_ble_eq_true rfl), (Nat.le_of_ble_eq_true rfl)⟩ rfl (Nat.le_of_ble_eq_true rfl) ⟨by simp only [room_1]; omega, by simp only [room_1]; omega⟩ (fun v146 s147 => ?_)
          refine G.istore (lv' := [(5, .int v146), (0, .ref b), (1, .ref (h 0)), (2, .ref (h 58)), (3, .ref (h 71)), (4, .int x4)]) E dL_law_1052 (by decide) rfl ?_
          refine G.aload_n E dL_law_1054 3 rfl rfl ?_
          refine G.aload_n E dL_law_1055 1 rfl rfl ?_
          refine G.iload E dL_law_1056 5 rfl ?_
          refine G.iconst (v := 1) E dL_law_1058 (by decide) ?_
          refine G.iadd E dL_law_1059 ?_
          refine G.sld E X0 dL_law_1060 (fun v148 => ?_)
          refine G.callVis (mc := 0) (ms := 0) (rm := rm_X8_erased) (n := 1) (T := TX8) (N := 21) (C := RX8) (a := h 58) (q0 := 58) (As := [.int v148]) E dL_law_1061 (fun _ _ hv => by obtain ⟨τ, hf, rfl⟩ := liM_some hv; exact Con.inM E.wf (c_X8_erased (wfL_M E.wf) hf)) gL_law_X8_erased rfl rfl rfl (by decide +kernel) ⟨(Nat.le_of_ble_eq_true rfl), (Nat.le_of_ble_eq_true rfl)⟩ ((wsL_at58 _ _ _).trans (wsM_at0 _ _ _)) rfl rfl (Nat.le_of_ble_eq_true rfl) ⟨by simp only [room_1]; omega, by simp only [room_1]; omega⟩ (fun v150 s149 => ?_)
          refine G.istore (lv' := [(6, .int v150), (5, .int v146), (0, .ref b), (1, .ref (h 0)), (2, .ref (h 58)), (3, .ref (h 71)), (4, .int x4)]) E dL_law_1064 (by decide) rfl ?_
          refine G.aload_n E dL_law_1066 4 rfl rfl ?_
          refine G.callVi (mc := 0) (ms := 0) (rm := rm_X8_thrown) (n := 0) (T := TX8) (N := 21) (C := RX8) (a := h 58) (q0 := 58) (As := []) E dL_law_1067 (fun _ hv => Con.inM E.wf (c_X8_thrown (wfL_M E.wf) hv)) gL_law_X8_thrown rfl rfl rfl (by decide +kernel) ⟨(Nat.le_of_ble_eq_true rfl), (Nat.le_of_ble_eq_true rfl)⟩ ((wsL_at58 _ _ _).trans (wsM_at0 _ _ _)) rfl rfl (Nat.le_of_ble_eq_true rfl) ⟨by simp only [room_1]; omega, by simp only [room_1]; omega⟩ (fun v151 => ?_)
          refine G.iload E dL_law_1070 1 rfl ?_
          refine G.icmp_eq (tgt := 1077) E dL_law_1072 (by decide) ?_ ?_
          · refine G.iload E dL_law_1077 1 rfl ?_
            refine G.jn (P := fun j => ∀ (_u : Unit), G p l e room_1 s m #[Value.ref b] below meth c 8 (cb + 1) (sb + 6) D (wsL cy h) (adL h) (fun _ : Unit => lw_Z below #[Value.ref b] s) 1094 [(0, .ref b), (1, .ref (h 0)), (2, .ref (h 58)), (3, .ref (h 71)), (4, .int x4)] [] s149 (j _u)) ?_ (fun j1094 hj1094 => ?_)
            · intro _u
              refine G.goto (tgt := 1309) E dL_law_1094 (by decide) ?_
              refine G.widen (k1 := cb + 8) (n1 := sb + 48) (by omega) (by omega) ?_
              refine G.loc [0, 1, 2, 3, 4] rfl ?_
              exact hj1309 s149
            · refine G.if_ne (tgt := 1094) E dL_law_1079 (by decide) ?_ ?_
              · refine G.aload_n E dL_law_1082 5 rfl rfl ?_
                refine G.iconst (v := 0) E dL_law_1083 (by decide) ?_
                refine G.oald (q0 := 71) E dL_law_1084 (wsL_at71 _ _ _) (fun v152 => ?_)
                refine G.iload E dL_law_1085 0 rfl ?_
                refine G.i2l E dL_law_1087 ?_
                refine G.lcmp E dL_law_1088 ?_
                refine G.if_eq (tgt := 1094) E dL_law_1089 (by decide) ?_ ?_
                · refine G.loc [2, 3, 4, 5, 6] rfl ?_
                  exact hj1094 ()
                · refine G.iconst (v := 0) E dL_law_1092 (by decide) ?_
                  exact G.no
              · refine G.loc [2, 3, 4, 5, 6] rfl ?_
                exact hj1094 ()
          · refine G.iconst (v := 0) E dL_law_1075 (by decide) ?_
            exact G.no
        refine G.swIn (c0 := 17) (tgt := 1097) E dL_law_39 (by decide) (by decide) rfl (by decide) ?_ (fun n17 => ?_)
        · refine G.aload_n E dL_law_1097 1 rfl rfl ?_
          refine G.aload_n E dL_law_1098 0 rfl rfl ?_
          refine G.iload E dL_law_1099 4 rfl ?_
          refine G.iconst (v := 1) E dL_law_1101 (by decide) ?_
          refine G.iadd E dL_law_1102 ?_
          refine G.sld E X0 dL_law_1103 (fun v153 => ?_)
          refine G.aload_n E dL_law_1104 0 rfl rfl ?_
          refine G.iload E dL_law_1105 4 rfl ?_
          refine G.iconst (v := 2) E dL_law_1107 (by decide) ?_
          refine G.iadd E dL_law_1108 ?_
          refine G.sld E X0 dL_law_1109 (fun v154 => ?_)
          refine G.jn (P := fun j => ∀ (v155 : Int32), G p l e room_1 s m #[Value.ref b] below meth c 8 (cb + 0) (sb + 0) D (wsL cy h) (adL h) (fun _ : Unit => lw_Z below #[Value.ref b] s) 1118 [(0, .ref b), (1, .ref (h 0)), (2, .ref (h 58)), (3, .ref (h 71)), (4, .int x4)] [.int v155, .int v153, .ref (h 0)] s0 (j v155)) ?_ (fun j1118 hj1118 => ?_)
          · intro v155
            refine G.aload_n E dL_law_1118 3 rfl rfl ?_
            refine G.callW (n := 4) (As := [.ref (h 0), .int v153, .int v155, .ref (h 71)]) E dL_law_1119 (fun _ _ hv => c_L_starred E.wf hfl hv) gL_law_L_starred rfl rfl rfl (by decide +kernel) ⟨(Nat.le_of_ble_eq_true rfl), (Nat.le_of_ble_eq_true rfl)⟩ rfl (Nat.le_of_ble_eq_true rfl) ⟨by simp only [room_1]; omega, by simp only [room_1]; omega⟩ (fun v156 s157 => ?_)
            refine G.istore (lv' := [(5, .int v156), (0, .ref b), (1, .ref (h 0)), (2, .ref (h 58)), (3, .ref (h 71)), (4, .int x4)]) E dL_law_1122 (by decide) rfl ?_
            refine G.aload_n E dL_law_1124 3 rfl rfl ?_
            refine G.aload_n E dL_law_1125 1 rfl rfl ?_
            refine G.iload E dL_law_1126 5 rfl ?_
            refine G.iconst (v := 1) E dL_law_1128 (by decide) ?_
            refine G.iadd E dL_law_1129 ?_
            refine G.sld E X0 dL_law_1130 (fun v158 => ?_)
            refine G.aload_n E dL_law_1131 1 rfl rfl ?_
            refine G.iload E dL_law_1132 5 rfl ?_
            refine G.iconst (v := 2) E dL_law_1134 (by decide) ?_
            refine G.iadd E dL_law_1135 ?_
            refine G.sld E X0 dL_law_1136 (fun v159 => ?_)
            refine G.jn (P := fun j => ∀ (v160 : Int32), G p l e room_1 s m #[Value.ref b] below meth c 8 (cb + 1) (sb + 6) D (wsL cy h) (adL h) (fun _ : Unit => lw_Z below #[Value.ref b] s) 1145 [(0, .ref b), (1, .ref (h 0)), (2, .ref (h 58)), (3, .ref (h 71)), (4, .int x4), (5, .int v156)] [.int v160, .int v158, .ref (h 58)] s157 (j v160)) ?_ (fun j1145 hj1145 => ?_)
            · intro v160
              refine G.callVls (mc := 0) (ms := 0) (rm := rm_X8_starred) (n := 2) (T := TX8) (N := 21) (C := RX8) (a := h 58) (q0 := 58) (As := [.int v158, .int v160]) E dL_law_1145 (fun _ _ hv => by obtain ⟨τ, hf, rfl⟩ := liM_some hv; exact Con.inM E.wf (c_X8_starred (wfL_M E.wf) hf)) gL_law_X8_starred rfl rfl rfl (by decide +kernel) ⟨(Nat.le_of_ble_eq_true rfl), (Nat.le_of_ble_eq_true rfl)⟩ ((wsL_at58 _ _ _).trans (wsM_at0 _ _ _)) rfl rfl (Nat.le_of_ble_eq_true rfl) ⟨by simp only [room_1]; omega, by simp only [room_1]; omega⟩ (fun v162 s161 => ?_)
              refine G.lstore (lv' := [(6, .long v162), (0, .ref b), (1, .ref (h 0)), (2, .ref (h 58)), (3, .ref (h 71)), (4, .int x4), (5, .int v156)]) E dL_law_1148 (by decide) rfl ?_
              refine G.aload_n E dL_law_1150 3 rfl rfl ?_
              refine G.callVi (mc := 0) (ms := 0) (rm := rm_X8_thrown) (n := 0) (T := TX8) (N := 21) (C := RX8) (a := h 58) (q0 := 58) (As := []) E dL_law_1151 (fun _ hv => Con.inM E.wf (c_X8_thrown (wfL_M E.wf) hv)) gL_law_X8_thrown rfl rfl rfl (by decide +kernel) ⟨(Nat.le_of_ble_eq_true rfl), (Nat.le_of_ble_eq_true rfl)⟩ ((wsL_at58 _ _ _).trans (wsM_at0 _ _ _)) rfl rfl (Nat.le_of_ble_eq_true rfl) ⟨by simp only [room_1]; omega, by simp only [room_1]; omega⟩ (fun v163 => ?_)
              refine G.iload E dL_law_1154 6 rfl ?_
              refine G.icmp_eq (tgt := 1161) E dL_law_1156 (by decide) ?_ ?_
              · refine G.iload E dL_law_1161 6 rfl ?_
                refine G.jn (P := fun j => ∀ (_u : Unit), G p l e room_1 s m #[Value.ref b] below meth c 8 (cb + 1) (sb + 6) D (wsL cy h) (adL h) (fun _ : Unit => lw_Z below #[Value.ref b] s) 1177 [(0, .ref b), (1, .ref (h 0)), (2, .ref (h 58)), (3, .ref (h 71)), (4, .int x4)] [] s161 (j _u)) ?_ (fun j1177 hj1177 => ?_)
                · intro _u
                  refine G.goto (tgt := 1309) E dL_law_1177 (by decide) ?_
                  refine G.widen (k1 := cb + 8) (n1 := sb + 48) (by omega) (by omega) ?_
                  refine G.loc [0, 1, 2, 3, 4] rfl ?_
                  exact hj1309 s161
                · refine G.if_ne (tgt := 1177) E dL_law_1163 (by decide) ?_ ?_
                  · refine G.aload_n E dL_law_1166 4 rfl rfl ?_
                    refine G.iconst (v := 0) E dL_law_1167 (by decide) ?_
                    refine G.oald (q0 := 71) E dL_law_1168 (wsL_at71 _ _ _) (fun v164 => ?_)
                    refine G.lload E dL_law_1169 0 rfl ?_
                    refine G.lcmp E dL_law_1171 ?_
                    refine G.if_eq (tgt := 1177) E dL_law_1172 (by decide) ?_ ?_
                    · refine G.loc [1, 2, 3, 4, 5] rfl ?_
                      exact hj1177 ()
                    · refine G.iconst (v := 0) E dL_law_1175 (by decide) ?_
                      exact G.no
                  · refine G.loc [1, 2, 3, 4, 5] rfl ?_
                    exact hj1177 ()
              · refine G.iconst (v := 0) E dL_law_1159 (by decide) ?_
                exact G.no
            · refine G.if_eq (tgt := 1144) E dL_law_1137 (by decide) ?_ ?_
              · refine G.iconst (v := 0) E dL_law_1144 (by decide) ?_
                refine G.loc [1, 2, 3, 4, 5, 0] rfl ?_
                exact hj1145 0
              · refine G.iconst (v := 1) E dL_law_1140 (by decide) ?_
                refine G.goto (tgt := 1145) E dL_law_1141 (by decide) ?_
                refine G.loc [1, 2, 3, 4, 5, 0] rfl ?_
                exact hj1145 1
          · refine G.if_eq (tgt := 1117) E dL_law_1110 (by decide) ?_ ?_
            · refine G.iconst (v := 0) E dL_law_1117 (by decide) ?_
              refine G.loc [0, 1, 2, 3, 4] rfl ?_
              exact hj1118 0
            · refine G.iconst (v := 1) E dL_law_1113 (by decide) ?_
              refine G.goto (tgt := 1118) E dL_law_1114 (by decide) ?_
              refine G.loc [0, 1, 2, 3, 4] rfl ?_
              exact hj1118 1
        refine G.swIn (c0 := 18) (tgt := 1180) E dL_law_39 (by decide) (by decide) rfl (by decide) ?_ (fun n18 => ?_)
        · refine G.aload_n E dL_law_1180 1 rfl rfl ?_
          refine G.aload_n E dL_law_1181 0 rfl rfl ?_
          refine G.iload E dL_law_1182 4 rfl ?_
          refine G.iconst (v := 1) E dL_law_1184 (by decide) ?_
          refine G.iadd E dL_law_1185 ?_
          refine G.sld E X0 dL_law_1186 (fun v165 => ?_)
          refine G.aload_n E dL_law_1187 0 rfl rfl ?_
          refine G.iload E dL_law_1188 4 rfl ?_
          refine G.iconst (v := 2) E dL_law_1190 (by decide) ?_
          refine G.iadd E dL_law_1191 ?_
          refine G.sld E X0 dL_law_1192 (fun v166 => ?_)
          refine G.callW (n := 3) (As := [.ref (h 0), .int v165, .int v166]) E dL_law_1193 (fun _ _ hv => c_L_move E.wf hfl hv) gL_law_L_move rfl rfl rfl (by decide +kernel) ⟨(Nat.le_of_ble_eq_true rfl), (Nat.le_of_ble_eq_true rfl)⟩ rfl (Nat.le_of_ble_eq_true rfl) ⟨by simp only [room_1]; omega, by simp only [room_1]; omega⟩ (fun v167 s168 => ?_)
          refine G.istore (lv' := [(5, .int v167), (0, .ref b), (1, .ref (h 0)), (2, .ref (h 58)), (3, .ref (h 71)), (4, .int x4)]) E dL_law_1196 (by decide) rfl ?_
          refine G.aload_n E dL_law_1198 3 rfl rfl ?_
          refine G.aload_n E dL_law_1199 1 rfl rfl ?_
          refine G.iload E dL_law_1200 5 rfl ?_
          refine G.iconst (v := 1) E dL_law_1202 (by decide) ?_
          refine G.iadd E dL_law_1203 ?_
          refine G.sld E X0 dL_law_1204 (fun v169 => ?_)
          refine G.aload_n E dL_law_1205 1 rfl rfl ?_
          refine G.iload E dL_law_1206 5 rfl ?_
          refine G.iconst (v := 2) E dL_law_1208 (by decide) ?_
          refine G.iadd E dL_law_1209 ?_
          refine G.sld E X0 dL_law_1210 (fun v170 => ?_)
          refine G.callVv (mc := 0) (ms := 0) (rm := rm_X8_move) (n := 2) (T := TX8) (N := 21) (C := RX8) (a := h 58) (q0 := 58) (As := [.int v169, .int v170]) E dL_law_1211 (fun _ hv => by obtain ⟨τ, hf, rfl⟩ := lvM_some hv; exact Con.inM E.wf (c_X8_move (wfL_M E.wf) hf)) gL_law_X8_move rfl rfl rfl (by decide +kernel) ⟨(Nat.le_of_ble_eq_true rfl), (Nat.le_of_ble_eq_true rfl)⟩ ((wsL_at58 _ _ _).trans (wsM_at0 _ _ _)) rfl rfl (Nat.le_of_ble_eq_true rfl) ⟨by simp only [room_1]; omega, by simp only [room_1]; omega⟩ (fun s171 => ?_)
          refine G.aload_n E dL_law_1214 3 rfl rfl ?_
          refine G.callVi (mc := 0) (ms := 0) (rm := rm_X8_thrown) (n := 0) (T := TX8) (N := 21) (C := RX8) (a := h 58) (q0 := 58) (As := []) E dL_law_1215 (fun _ hv => Con.inM E.wf (c_X8_thrown (wfL_M E.wf) hv)) gL_law_X8_thrown rfl rfl rfl (by decide +kernel) ⟨(Nat.le_of_ble_eq_true rfl), (Nat.le_of_ble_eq_true rfl)⟩ ((wsL_at58 _ _ _).trans (wsM_at0 _ _ _)) rfl rfl (Nat.le_of_ble_eq_true rfl) ⟨by simp only [room_1]; omega, by simp only [room_1]; omega⟩ (fun v172 => ?_)
          refine G.iload E dL_law_1218 0 rfl ?_
          refine G.icmp_eq (tgt := 1225) E dL_law_1220 (by decide) ?_ ?_
          · refine G.goto (tgt := 1309) E dL_law_1225 (by decide) ?_
            refine G.widen (k1 := cb + 8) (n1 := sb + 48) (by omega) (by omega) ?_
            refine G.loc [1, 2, 3, 4, 5] rfl ?_
            exact hj1309 s171
          · refine G.iconst (v := 0) E dL_law_1223 (by decide) ?_
            exact G.no
        refine G.swIn (c0 := 19) (tgt := 1228) E dL_law_39 (by decide) (by decide) rfl (by decide) ?_ (fun n19 => ?_)
        · refine G.aload_n E dL_law_1228 1 rfl rfl ?_
          refine G.aload_n E dL_law_1229 3 rfl rfl ?_
          refine G.callW (n := 2) (As := [.ref (h 0), .ref (h 71)]) E dL_law_1230 (fun _ _ hv => c_L_undo E.wf hfl hv) gL_law_L_undo rfl rfl rfl (by decide +kernel) ⟨(Nat.le_of_ble_eq_true rfl), (Nat.le_of_ble_eq_true rfl)⟩ rfl (Nat.le_of_ble_eq_true rfl) ⟨by simp only [room_1]; omega, by simp only [room_1]; omega⟩ (fun v173 s174 => ?_)
          refine G.istore (lv' := [(5, .int v173), (0, .ref b), (1, .ref (h 0)), (2, .ref (h 58)), (3, .ref (h 71)), (4, .int x4)]) E dL_law_1233 (by decide) rfl ?_
          refine G.aload_n E dL_law_1235 3 rfl rfl ?_
          refine G.callVis (mc := 0) (ms := 0) (rm := rm_X8_undo) (n := 0) (T := TX8) (N := 21) (C := RX8) (a := h 58) (q0 := 58) (As := []) E dL_law_1236 (fun _ _ hv => by obtain ⟨τ, hf, rfl⟩ := liM_some hv; exact Con.inM E.wf (c_X8_undo (wfL_M E.wf) hf)) gL_law_X8_undo rfl rfl rfl (by decide +kernel) ⟨(Nat.le_of_ble_eq_true rfl), (Nat.le_of_ble_eq_true rfl)⟩ ((wsL_at58 _ _ _).trans (wsM_at0 _ _ _)) rfl rfl (Nat.le_of_ble_eq_true rfl) ⟨by simp only [room_1]; omega, by simp only [room_1]; omega⟩ (fun v176 s175 => ?_)
          refine G.istore (lv' := [(6, .int v176), (5, .int v173), (0, .ref b), (1, .ref (h 0)), (2, .ref (h 58)), (3, .ref (h 71)), (4, .int x4)]) E dL_law_1239 (by decide) rfl ?_
          refine G.aload_n E dL_law_1241 4 rfl rfl ?_
          refine G.callVi (mc := 0) (ms := 0) (rm := rm_X8_thrown) (n := 0) (T := TX8) (N := 21) (C := RX8) (a := h 58) (q0 := 58) (As := []) E dL_law_1242 (fun _ hv => Con.inM E.wf (c_X8_thrown (wfL_M E.wf) hv)) gL_law_X8_thrown rfl rfl rfl (by decide +kernel) ⟨(Nat.le_of_ble_eq_true rfl), (Nat.le_of_ble_eq_true rfl)⟩ ((wsL_at58 _ _ _).trans (wsM_at0 _ _ _)) rfl rfl (Nat.le_of_ble_eq_true rfl) ⟨by simp only [room_1]; omega, by simp only [room_1]; omega⟩ (fun v177 => ?_)
          refine G.iload E dL_law_1245 1 rfl ?_
          refine G.icmp_eq (tgt := 1252) E dL_law_1247 (by decide) ?_ ?_
          · refine G.iload E dL_law_1252 1 rfl ?_
            refine G.jn (P := fun j => ∀ (_u : Unit), G p l e room_1 s m #[Value.ref b] below meth c 8 (cb + 1) (sb + 6) D (wsL cy h) (adL h) (fun _ : Unit => lw_Z below #[Value.ref b] s) 1269 [(0, .ref b), (1, .ref (h 0)), (2, .ref (h 58)), (3, .ref (h 71)), (4, .int x4)] [] s175 (j _u)) ?_ (fun j1269 hj1269 => ?_)
            · intro _u
              refine G.goto (tgt := 1309) E dL_law_1269 (by decide) ?_
              refine G.widen (k1 := cb + 8) (n1 := sb + 48) (by omega) (by omega) ?_
              refine G.loc [0, 1, 2, 3, 4] rfl ?_
              exact hj1309 s175
            · refine G.if_ne (tgt := 1269) E dL_law_1254 (by decide) ?_ ?_
              · refine G.aload_n E dL_law_1257 5 rfl rfl ?_
                refine G.iconst (v := 0) E dL_law_1258 (by decide) ?_
                refine G.oald (q0 := 71) E dL_law_1259 (wsL_at71 _ _ _) (fun v178 => ?_)
                refine G.iload E dL_law_1260 0 rfl ?_
                refine G.i2l E dL_law_1262 ?_
                refine G.lcmp E dL_law_1263 ?_
                refine G.if_eq (tgt := 1269) E dL_law_1264 (by decide) ?_ ?_
                · refine G.loc [2, 3, 4, 5, 6] rfl ?_
                  exact hj1269 ()
                · refine G.iconst (v := 0) E dL_law_1267 (by decide) ?_
                  exact G.no
              · refine G.loc [2, 3, 4, 5, 6] rfl ?_
                exact hj1269 ()
          · refine G.iconst (v := 0) E dL_law_1250 (by decide) ?_
            exact G.no
        refine G.swIn (c0 := 20) (tgt := 1272) E dL_law_39 (by decide) (by decide) rfl (by decide) ?_ (fun n20 => ?_)
        · refine G.aload_n E dL_law_1272 1 rfl rfl ?_
          refine G.callVis (mc := 0) (ms := 0) (rm := rm_X7_simplify) (n := 0) (T := TX7) (N := 7) (C := RX7) (a := h 0) (q0 := 0) (As := []) E dL_law_1273 (fun _ _ hv => by obtain ⟨τ, hf, rfl⟩ := liC_some hv; exact Con.inC E.wf (c_X7_simplify (wfL_C E.wf) hf)) gL_law_X7_simplify rfl rfl rfl (by decide +kernel) ⟨(Nat.le_of_ble_eq_true rfl), (Nat.le_of_ble_eq_true rfl)⟩ ((wsL_at0 _ _ _).trans (wsC_at0 _ _ _)) rfl rfl (Nat.le_of_ble_eq_true rfl) ⟨by simp only [room_1]; omega, by simp only [room_1]; omega⟩ (fun v180 s179 => ?_)
          refine G.aload_n E dL_law_1276 2 rfl rfl ?_
          refine G.callVis (mc := 0) (ms := 0) (rm := rm_X8_simplify) (n := 0) (T := TX8) (N := 21) (C := RX8) (a := h 58) (q0 := 58) (As := []) E dL_law_1277 (fun _ _ hv => by obtain ⟨τ, hf, rfl⟩ := liM_some hv; exact Con.inM E.wf (c_X8_simplify (wfL_M E.wf) hf)) gL_law_X8_simplify rfl rfl rfl (by decide +kernel) ⟨(Nat.le_of_ble_eq_true rfl), (Nat.le_of_ble_eq_true rfl)⟩ ((wsL_at58 _ _ _).trans (wsM_at0 _ _ _)) rfl rfl (Nat.le_of_ble_eq_true rfl) ⟨by simp only [room_1]; omega, by simp only [room_1]; omega⟩ (fun v182 s181 => ?_)
          refine G.icmp_eq (tgt := 1309) E dL_law_1280 (by decide) ?_ ?_
          · refine G.widen (k1 := cb + 8) (n1 := sb + 48) (by omega) (by omega) ?_
            refine G.loc [0, 1, 2, 3, 4] rfl ?_
            exact hj1309 s181
          · refine G.iconst (v := 0) E dL_law_1283 (by decide) ?_
            exact G.no
        refine G.swIn (c0 := 21) (tgt := 1285) E dL_law_39 (by decide) (by decide) rfl (by decide) ?_ (fun n21 => ?_)
        · refine G.aload_n E dL_law_1285 1 rfl rfl ?_
          refine G.callVv (mc := 0) (ms := 0) (rm := rm_X7_mark) (n := 0) (T := TX7) (N := 7) (C := RX7) (a := h 0) (q0 := 0) (As := []) E dL_law_1286 (fun _ hv => by obtain ⟨τ, hf, rfl⟩ := lvC_some hv; exact Con.inC E.wf (c_X7_mark (wfL_C E.wf) hf)) gL_law_X7_mark rfl rfl rfl (by decide +kernel) ⟨(Nat.le_of_ble_eq_true rfl), (Nat.le_of_ble_eq_true rfl)⟩ ((wsL_at0 _ _ _).trans (wsC_at0 _ _ _)) rfl rfl (Nat.le_of_ble_eq_true rfl) ⟨by simp only [room_1]; omega, by simp only [room_1]; omega⟩ (fun s183 => ?_)
          refine G.aload_n E dL_law_1289 2 rfl rfl ?_
          refine G.callVv (mc := 0) (ms := 0) (rm := rm_X8_mark) (n := 0) (T := TX8) (N := 21) (C := RX8) (a := h 58) (q0 := 58) (As := []) E dL_law_1290 (fun _ hv => by obtain ⟨τ, hf, rfl⟩ := lvM_some hv; exact Con.inM E.wf (c_X8_mark (wfL_M E.wf) hf)) gL_law_X8_mark rfl rfl rfl (by decide +kernel) ⟨(Nat.le_of_ble_eq_true rfl), (Nat.le_of_ble_eq_true rfl)⟩ ((wsL_at58 _ _ _).trans (wsM_at0 _ _ _)) rfl rfl (Nat.le_of_ble_eq_true rfl) ⟨by simp only [room_1]; omega, by simp only [room_1]; omega⟩ (fun s184 => ?_)
          refine G.goto (tgt := 1309) E dL_law_1293 (by decide) ?_
          refine G.widen (k1 := cb + 8) (n1 := sb + 48) (by omega) (by omega) ?_
          refine G.loc [0, 1, 2, 3, 4] rfl ?_
          exact hj1309 s184
        refine G.swIn (c0 := 22) (tgt := 1296) E dL_law_39 (by decide) (by decide) rfl (by decide) ?_ (fun n22 => ?_)
        · refine G.aload_n E dL_law_1296 1 rfl rfl ?_
          refine G.callVis (mc := 0) (ms := 0) (rm := rm_X7_keeps) (n := 0) (T := TX7) (N := 7) (C := RX7) (a := h 0) (q0 := 0) (As := []) E dL_law_1297 (fun _ _ hv => by obtain ⟨τ, hf, rfl⟩ := liC_some hv; exact Con.inC E.wf (c_X7_keeps (wfL_C E.wf) hf)) gL_law_X7_keeps rfl rfl rfl (by decide +kernel) ⟨(Nat.le_of_ble_eq_true rfl), (Nat.le_of_ble_eq_true rfl)⟩ ((wsL_at0 _ _ _).trans (wsC_at0 _ _ _)) rfl rfl (Nat.le_of_ble_eq_true rfl) ⟨by simp only [room_1]; omega, by simp only [room_1]; omega⟩ (fun v186 s185 => ?_)
          refine G.aload_n E dL_law_1300 2 rfl rfl ?_
          refine G.callVis (mc := 0) (ms := 0) (rm := rm_X8_keeps) (n := 0) (T := TX8) (N := 21) (C := RX8) (a := h 58) (q0 := 58) (As := []) E dL_law_1301 (fun _ _ hv => by obtain ⟨τ, hf, rfl⟩ := liM_some hv; exact Con.inM E.wf (c_X8_keeps (wfL_M E.wf) hf)) gL_law_X8_keeps rfl rfl rfl (by decide +kernel) ⟨(Nat.le_of_ble_eq_true rfl), (Nat.le_of_ble_eq_true rfl)⟩ ((wsL_at58 _ _ _).trans (wsM_at0 _ _ _)) rfl rfl (Nat.le_of_ble_eq_true rfl) ⟨by simp only [room_1]; omega, by simp only [room_1]; omega⟩ (fun v188 s187 => ?_)
          refine G.icmp_eq (tgt := 1309) E dL_law_1304 (by decide) ?_ ?_
          · refine G.widen (k1 := cb + 8) (n1 := sb + 48) (by omega) (by omega) ?_
            refine G.loc [0, 1, 2, 3, 4] rfl ?_
            exact hj1309 s187
          · refine G.iconst (v := 0) E dL_law_1307 (by decide) ?_
            exact G.no
        refine G.swOut (tgt := 1309) E dL_law_39 (by have := lv_neT (a := 0) n0 (by decide); have := lv_neT (a := 1) n1 (by decide); have := lv_neT (a := 2) n2 (by decide); have := lv_neT (a := 3) n3 (by decide); have := lv_neT (a := 4) n4 (by decide); have := lv_neT (a := 5) n5 (by decide); have := lv_neT (a := 6) n6 (by decide); have := lv_neT (a := 7) n7 (by decide); have := lv_neT (a := 8) n8 (by decide); have := lv_neT (a := 9) n9 (by decide); have := lv_neT (a := 10) n10 (by decide); have := lv_neT (a := 11) n11 (by decide); have := lv_neT (a := 12) n12 (by decide); have := lv_neT (a := 13) n13 (by decide); have := lv_neT (a := 14) n14 (by decide); have := lv_neT (a := 15) n15 (by decide); have := lv_neT (a := 16) n16 (by decide); have := lv_neT (a := 17) n17 (by decide); have := lv_neT (a := 18) n18 (by decide); have := lv_neT (a := 19) n19 (by decide); have := lv_neT (a := 20) n20 (by decide); have := lv_neT (a := 21) n21 (by decide); have := lv_neT (a := 22) n22 (by decide); omega) (by decide) ?_
        refine G.widen (k1 := cb + 8) (n1 := sb + 48) (by omega) (by omega) ?_
        refine G.loc [0, 1, 2, 3, 4] rfl ?_
        exact hj1309 s0
end TR
