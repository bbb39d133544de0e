set_option maxRecDepth 20000 in
theorem wsL_law0_r15_w23 : Cond.codeWith yL_undo cL_undo 3 (some .int) [(0, 5, 8, 14)] ∈ lw_tbl := List.mem_of_getElem? (i := 738) (by decide +kernel)
set_option maxRecDepth 20000 in
theorem wsL_law0_r15_w22 : Cond.static yL_undo ∈ lw_tbl := by decide +kernel
set_option maxRecDepth 20000 in
theorem wsL_law0_r15_w21 : Cond.methodLink RL 187 yL_undo ∈ lw_tbl := by decide +kernel
set_option maxRecDepth 20000 in
theorem wsL_law0_r15_w20 : Cond.code yX7_wires cX7_wires 1 (some .int) ∈ lw_tbl := List.mem_of_getElem? (i := 295) (by decide +kernel)
set_option maxRecDepth 20000 in
theorem wsL_law0_r15_w19 : Cond.selects RX7 yX7_wires yX7_wires ∈ lw_tbl := by decide +kernel
set_option maxRecDepth 20000 in
theorem wsL_law0_r15_w18 : Cond.instanceMethod yX7_wires ∈ lw_tbl := by decide +kernel
set_option maxRecDepth 20000 in
theorem wsL_law0_r15_w17 : Cond.methodLink RL 111 yX7_wires ∈ lw_tbl := by decide +kernel
set_option maxRecDepth 20000 in
theorem wsL_law0_r15_w16 : Cond.code yL_stars cL_stars 11 (some .boolean) ∈ lw_tbl := List.mem_append_right (k2_sels lw_privs) (List.mem_append_right tables_1_1 (List.mem_append_right tables_1_2 (List.mem_append_right tables_1_3 (List.mem_of_getElem? (l := tables_1_4) (i := 31) rfl))))
set_option maxRecDepth 20000 in
theorem wsL_law0_r15_w15 : Cond.static yL_stars ∈ lw_tbl := by decide +kernel
set_option maxRecDepth 20000 in
theorem wsL_law0_r15_w14 : Cond.methodLink RL 100 yL_stars ∈ lw_tbl := by decide +kernel
set_option maxRecDepth 20000 in
theorem wsL_law0_r15_w13 : Cond.code yL_lowest cL_lowest 2 (some .int) ∈ lw_tbl := List.mem_append_right (k2_sels lw_privs) (List.mem_append_right tables_1_1 (List.mem_append_right tables_1_2 (List.mem_append_right tables_1_3 (List.mem_of_getElem? (l := tables_1_4) (i := 28) rfl))))
set_option maxRecDepth 20000 in
theorem wsL_law0_r15_w12 : Cond.static yL_lowest ∈ lw_tbl := by decide +kernel
set_option maxRecDepth 20000 in
theorem wsL_law0_r15_w11 : Cond.methodLink RL 97 yL_lowest ∈ lw_tbl := by decide +kernel
set_option maxRecDepth 20000 in
theorem wsL_law0_r15_w10 : Cond.code yL_wiresOf cL_wiresOf 6 (some .int) ∈ lw_tbl := List.mem_append_right (k2_sels lw_privs) (List.mem_append_right tables_1_1 (List.mem_append_right tables_1_2 (List.mem_append_right tables_1_3 (List.mem_of_getElem? (l := tables_1_4) (i := 25) rfl))))
set_option maxRecDepth 20000 in
theorem wsL_law0_r15_w9 : Cond.static yL_wiresOf ∈ lw_tbl := by decide +kernel
set_option maxRecDepth 20000 in
theorem wsL_law0_r15_w8 : Cond.methodLink RL 93 yL_wiresOf ∈ lw_tbl := by decide +kernel
set_option maxRecDepth 20000 in
theorem wsL_law0_r15_w7 : Cond.code yL_does cL_does 14 (some .boolean) ∈ lw_tbl := List.mem_append_right (k2_sels lw_privs) (List.mem_append_right tables_1_1 (List.mem_append_right tables_1_2 (List.mem_append_right tables_1_3 (List.mem_of_getElem? (l := tables_1_4) (i := 22) rfl))))
set_option maxRecDepth 20000 in
theorem wsL_law0_r15_w6 : Cond.static yL_does ∈ lw_tbl := by decide +kernel
set_option maxRecDepth 20000 in
theorem wsL_law0_r15_w5 : Cond.methodLink RL 183 yL_does ∈ lw_tbl := by decide +kernel
set_option maxRecDepth 20000 in
theorem wsL_law0_r15_w4 : Cond.code yL_isThere cL_isThere 3 (some .boolean) ∈ lw_tbl := List.mem_append_right (k2_sels lw_privs) (List.mem_append_right tables_1_1 (List.mem_append_right tables_1_2 (List.mem_append_right tables_1_3 (List.mem_of_getElem? (l := tables_1_4) (i := 37) rfl))))
set_option maxRecDepth 20000 in
theorem wsL_law0_r15_w3 : Cond.static yL_isThere ∈ lw_tbl := by decide +kernel
set_option maxRecDepth 20000 in
theorem wsL_law0_r15_w2 : Cond.methodLink RL 179 yL_isThere ∈ lw_tbl := by decide +kernel
set_option maxRecDepth 20000 in
theorem wsL_law0_r15_w1 : Cond.methodLink RX3 205 yX4_addWire ∈ lw_tbl := by decide +kernel
set_option maxRecDepth 20000 in
theorem wsL_law0_r15_w0 : Cond.methodLink RX3 192 yX4_addNode ∈ lw_tbl := by decide +kernel
theorem wsL_law0_r15_in : ∀ w ∈ wsL_law0_r15, w ∈ lw_tbl := List.forall_mem_cons.mpr ⟨wsL_law0_r15_w0, List.forall_mem_cons.mpr ⟨wsL_law0_r15_w1, List.forall_mem_cons.mpr ⟨wsL_law0_r15_w2, List.forall_mem_cons.mpr ⟨wsL_law0_r15_w3, List.forall_mem_cons.mpr ⟨wsL_law0_r15_w4, List.forall_mem_cons.mpr ⟨wsL_law0_r15_w5, List.forall_mem_cons.mpr ⟨wsL_law0_r15_w6, List.forall_mem_cons.mpr ⟨wsL_law0_r15_w7, List.forall_mem_cons.mpr ⟨wsL_law0_r15_w8, List.forall_mem_cons.mpr ⟨wsL_law0_r15_w9, List.forall_mem_cons.mpr ⟨wsL_law0_r15_w10, List.forall_mem_cons.mpr ⟨wsL_law0_r15_w11, List.forall_mem_cons.mpr ⟨wsL_law0_r15_w12, List.forall_mem_cons.mpr ⟨wsL_law0_r15_w13, List.forall_mem_cons.mpr ⟨wsL_law0_r15_w14, List.forall_mem_cons.mpr ⟨wsL_law0_r15_w15, List.forall_mem_cons.mpr ⟨wsL_law0_r15_w16, List.forall_mem_cons.mpr ⟨wsL_law0_r15_w17, List.forall_mem_cons.mpr ⟨wsL_law0_r15_w18, List.forall_mem_cons.mpr ⟨wsL_law0_r15_w19, List.forall_mem_cons.mpr ⟨wsL_law0_r15_w20, List.forall_mem_cons.mpr ⟨wsL_law0_r15_w21, List.forall_mem_cons.mpr ⟨wsL_law0_r15_w22, List.forall_mem_cons.mpr ⟨wsL_law0_r15_w23, fun _ h => absurd h List.not_mem_nil⟩⟩⟩⟩⟩⟩⟩⟩⟩⟩⟩⟩⟩⟩⟩⟩⟩⟩⟩⟩⟩⟩⟩⟩
set_option maxRecDepth 20000 in
theorem wsL_law0_r16_in : ∀ w ∈ wsL_law0_r16, w ∈ lw_tbl := by decide +kernel
set_option maxRecDepth 20000 in
theorem wsL_law0_r17_in : ∀ w ∈ wsL_law0_r17, w ∈ lw_tbl := by decide +kernel
set_option maxRecDepth 20000 in
theorem wsL_law0_r18_in : ∀ w ∈ wsL_law0_r18, w ∈ lw_tbl := by decide +kernel
set_option maxRecDepth 20000 in
theorem wsL_law0_r19_in : ∀ w ∈ wsL_law0_r19, w ∈ lw_tbl := by decide +kernel
set_option maxRecDepth 20000 in
theorem wsL_law0_r20_in : ∀ w ∈ wsL_law0_r20, w ∈ lw_tbl := by decide +kernel
set_option maxRecDepth 20000 in
theorem wsL_law0_r21_in : ∀ w ∈ wsL_law0_r21, w ∈ lw_tbl := by decide +kernel
