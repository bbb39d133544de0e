set_option maxRecDepth 20000 in
theorem wsL_law0_r22_w23 : Cond.code yX7_countTrees cX7_countTrees 2 (some .long) ∈ lw_tbl := List.mem_append_right (k2_sels lw_privs) (List.mem_append_right tables_1_1 (List.mem_append_right tables_1_2 (List.mem_append_right tables_1_3 (List.mem_of_getElem? (l := tables_1_4) (i := 56) rfl))))
set_option maxRecDepth 20000 in
theorem wsL_law0_r22_w22 : Cond.selects RX7 yX7_countTrees yX7_countTrees ∈ lw_tbl := by decide +kernel
set_option maxRecDepth 20000 in
theorem wsL_law0_r22_w21 : Cond.instanceMethod yX7_countTrees ∈ lw_tbl := by decide +kernel
set_option maxRecDepth 20000 in
theorem wsL_law0_r22_w20 : Cond.methodLink RX7 121 yX7_countTrees ∈ lw_tbl := by decide +kernel
set_option maxRecDepth 20000 in
theorem wsL_law0_r22_w19 : Cond.code yX7_trees cX7_trees 1 (some .long) ∈ lw_tbl := List.mem_append_right (k2_sels lw_privs) (List.mem_append_right tables_1_1 (List.mem_append_right tables_1_2 (List.mem_append_right tables_1_3 (List.mem_of_getElem? (l := tables_1_4) (i := 52) rfl))))
set_option maxRecDepth 20000 in
theorem wsL_law0_r22_w18 : Cond.selects RX7 yX7_trees yX7_trees ∈ lw_tbl := by decide +kernel
set_option maxRecDepth 20000 in
theorem wsL_law0_r22_w17 : Cond.instanceMethod yX7_trees ∈ lw_tbl := by decide +kernel
set_option maxRecDepth 20000 in
theorem wsL_law0_r22_w16 : Cond.methodLink RL 117 yX7_trees ∈ lw_tbl := by decide +kernel
set_option maxRecDepth 20000 in
theorem wsL_law0_r22_w15 : Cond.code yX7_rest cX7_rest 1 (some .long) ∈ lw_tbl := List.mem_append_right (k2_sels lw_privs) (List.mem_append_right tables_1_1 (List.mem_append_right tables_1_2 (List.mem_append_right tables_1_3 (List.mem_of_getElem? (l := tables_1_4) (i := 48) rfl))))
set_option maxRecDepth 20000 in
theorem wsL_law0_r22_w14 : Cond.selects RX7 yX7_rest yX7_rest ∈ lw_tbl := by decide +kernel
set_option maxRecDepth 20000 in
theorem wsL_law0_r22_w13 : Cond.instanceMethod yX7_rest ∈ lw_tbl := by decide +kernel
set_option maxRecDepth 20000 in
theorem wsL_law0_r22_w12 : Cond.methodLink RL 114 yX7_rest ∈ lw_tbl := by decide +kernel
set_option maxRecDepth 20000 in
theorem wsL_law0_r22_w11 : Cond.fieldLink RX7 118 "ExactWires$Network" "nodesThere" "I" ∈ lw_tbl := by decide +kernel
set_option maxRecDepth 20000 in
theorem wsL_law0_r22_w10 : Cond.code yX7_nodes cX7_nodes 1 (some .int) ∈ lw_tbl := List.mem_append_right (k2_sels lw_privs) (List.mem_append_right tables_1_1 (List.mem_append_right tables_1_2 (List.mem_append_right tables_1_3 (List.mem_of_getElem? (l := tables_1_4) (i := 44) rfl))))
set_option maxRecDepth 20000 in
theorem wsL_law0_r22_w9 : Cond.selects RX7 yX7_nodes yX7_nodes ∈ lw_tbl := by decide +kernel
set_option maxRecDepth 20000 in
theorem wsL_law0_r22_w8 : Cond.instanceMethod yX7_nodes ∈ lw_tbl := by decide +kernel
set_option maxRecDepth 20000 in
theorem wsL_law0_r22_w7 : Cond.methodLink RL 108 yX7_nodes ∈ lw_tbl := by decide +kernel
set_option maxRecDepth 20000 in
theorem wsL_law0_r22_w6 : Cond.constantLong RL 38 (-9200000000000000002) ∈ lw_tbl := by decide +kernel
set_option maxRecDepth 20000 in
theorem wsL_law0_r22_w5 : Cond.constantLong RL 36 (-9200000000000000001) ∈ lw_tbl := by decide +kernel
set_option maxRecDepth 20000 in
theorem wsL_law0_r22_w4 : Cond.code yL_isTold cL_isTold 22 (some .boolean) ∈ lw_tbl := List.mem_append_right (k2_sels lw_privs) (List.mem_append_right tables_1_1 (List.mem_append_right tables_1_2 (List.mem_append_right tables_1_3 (List.mem_of_getElem? (l := tables_1_4) (i := 40) rfl))))
set_option maxRecDepth 20000 in
theorem wsL_law0_r22_w3 : Cond.static yL_isTold ∈ lw_tbl := by decide +kernel
set_option maxRecDepth 20000 in
theorem wsL_law0_r22_w2 : Cond.methodLink RL 203 yL_isTold ∈ lw_tbl := by decide +kernel
set_option maxRecDepth 20000 in
theorem wsL_law0_r22_w1 : Cond.code yX1_isKept cX1_isKept 7 (some .boolean) ∈ lw_tbl := List.mem_of_getElem? (i := 538) (by decide +kernel)
set_option maxRecDepth 20000 in
theorem wsL_law0_r22_w0 : Cond.selects RX1 yX1_isKept yX1_isKept ∈ lw_tbl := by decide +kernel
theorem wsL_law0_r22_in : ∀ w ∈ wsL_law0_r22, w ∈ lw_tbl := List.forall_mem_cons.mpr ⟨wsL_law0_r22_w0, List.forall_mem_cons.mpr ⟨wsL_law0_r22_w1, List.forall_mem_cons.mpr ⟨wsL_law0_r22_w2, List.forall_mem_cons.mpr ⟨wsL_law0_r22_w3, List.forall_mem_cons.mpr ⟨wsL_law0_r22_w4, List.forall_mem_cons.mpr ⟨wsL_law0_r22_w5, List.forall_mem_cons.mpr ⟨wsL_law0_r22_w6, List.forall_mem_cons.mpr ⟨wsL_law0_r22_w7, List.forall_mem_cons.mpr ⟨wsL_law0_r22_w8, List.forall_mem_cons.mpr ⟨wsL_law0_r22_w9, List.forall_mem_cons.mpr ⟨wsL_law0_r22_w10, List.forall_mem_cons.mpr ⟨wsL_law0_r22_w11, List.forall_mem_cons.mpr ⟨wsL_law0_r22_w12, List.forall_mem_cons.mpr ⟨wsL_law0_r22_w13, List.forall_mem_cons.mpr ⟨wsL_law0_r22_w14, List.forall_mem_cons.mpr ⟨wsL_law0_r22_w15, List.forall_mem_cons.mpr ⟨wsL_law0_r22_w16, List.forall_mem_cons.mpr ⟨wsL_law0_r22_w17, List.forall_mem_cons.mpr ⟨wsL_law0_r22_w18, List.forall_mem_cons.mpr ⟨wsL_law0_r22_w19, List.forall_mem_cons.mpr ⟨wsL_law0_r22_w20, List.forall_mem_cons.mpr ⟨wsL_law0_r22_w21, List.forall_mem_cons.mpr ⟨wsL_law0_r22_w22, List.forall_mem_cons.mpr ⟨wsL_law0_r22_w23, fun _ h => absurd h List.not_mem_nil⟩⟩⟩⟩⟩⟩⟩⟩⟩⟩⟩⟩⟩⟩⟩⟩⟩⟩⟩⟩⟩⟩⟩⟩
set_option maxRecDepth 20000 in
theorem wsL_law0_r23_in : ∀ w ∈ wsL_law0_r23, w ∈ lw_tbl := by decide +kernel
set_option maxRecDepth 20000 in
theorem wsL_law0_r24_in : ∀ w ∈ wsL_law0_r24, w ∈ lw_tbl := by decide +kernel
set_option maxRecDepth 20000 in
theorem wsL_law0_r25_in : ∀ w ∈ wsL_law0_r25, w ∈ lw_tbl := by decide +kernel
set_option maxRecDepth 20000 in
theorem wsL_law0_r26_in : ∀ w ∈ wsL_law0_r26, w ∈ lw_tbl := by decide +kernel
set_option maxRecDepth 20000 in
theorem wsL_law0_r27_in : ∀ w ∈ wsL_law0_r27, w ∈ lw_tbl := by decide +kernel
set_option maxRecDepth 20000 in
theorem wsL_law0_r28_in : ∀ w ∈ wsL_law0_r28, w ∈ lw_tbl := by decide +kernel
theorem wsX70_tb : ∀ w ∈ wsX70, w ∈ lw_tbl := by decide +kernel
theorem wsX40_tb : ∀ w ∈ wsX40, w ∈ lw_tbl := by decide +kernel
theorem wsX00_tb : ∀ w ∈ wsX00, w ∈ lw_tbl := by decide +kernel
theorem wsX20_tb : ∀ w ∈ wsX20, w ∈ lw_tbl := by decide +kernel
theorem wsX60_tb : ∀ w ∈ wsX60, w ∈ lw_tbl := by decide +kernel
theorem wsX30_tb : ∀ w ∈ wsX30, w ∈ lw_tbl := by decide +kernel
theorem wsX10_tb : ∀ w ∈ wsX10, w ∈ lw_tbl := by decide +kernel
theorem wsX50_tb : ∀ w ∈ wsX50, w ∈ lw_tbl := by decide +kernel
set_option maxRecDepth 20000 in
theorem wsL_law_in0 : ∀ w ∈ wsL_law0, w ∈ lw_tbl := by
  intro w hw
  simp only [wsL_law0, List.mem_append, List.not_mem_nil, or_false] at hw
  rcases hw with (((((((((h | h | h | h | h | h | h | h | h | h | h | h | h | h | h | h | h | h | h | h | h | h | h | h | h | h | h | h) | h) | h) | h) | h) | h) | h) | h) | h)
  · exact wsL_law0_r1_in w h
  · exact wsL_law0_r2_in w h
  · exact wsL_law0_r3_in w h
  · exact wsL_law0_r4_in w h
  · exact wsL_law0_r5_in w h
  · exact wsL_law0_r6_in w h
  · exact wsL_law0_r7_in w h
  · exact wsL_law0_r8_in w h
  · exact wsL_law0_r9_in w h
  · exact wsL_law0_r10_in w h
  · exact wsL_law0_r11_in w h
  · exact wsL_law0_r12_in w h
  · exact wsL_law0_r13_in w h
  · exact wsL_law0_r14_in w h
  · exact wsL_law0_r15_in w h
  · exact wsL_law0_r16_in w h
  · exact wsL_law0_r17_in w h
  · exact wsL_law0_r18_in w h
  · exact wsL_law0_r19_in w h
  · exact wsL_law0_r20_in w h
  · exact wsL_law0_r21_in w h
  · exact wsL_law0_r22_in w h
  · exact wsL_law0_r23_in w h
  · exact wsL_law0_r24_in w h
  · exact wsL_law0_r25_in w h
  · exact wsL_law0_r26_in w h
  · exact wsL_law0_r27_in w h
  · exact wsL_law0_r28_in w h
  · exact wsX70_tb w h
  · exact wsX40_tb w h
  · exact wsX00_tb w h
  · exact wsX20_tb w h
  · exact wsX60_tb w h
  · exact wsX30_tb w h
  · exact wsX10_tb w h
  · exact wsX50_tb w h
theorem wsL_law_x0 : ∀ w ∈ (vx_atS RX7 65 "java/lang/IllegalStateException" ["java/lang/RuntimeException", "java/lang/Exception"]).filter goodWord, w ∈ lw_tbl := by decide +kernel
theorem wsL_law_x1 : ∀ w ∈ (vx_atS RX7 87 "java/lang/IllegalArgumentException" ["java/lang/RuntimeException", "java/lang/Exception"]).filter goodWord, w ∈ lw_tbl := by decide +kernel
theorem wsL_law_x2 : ∀ w ∈ (vx_atS RX7 187 "java/lang/IndexOutOfBoundsException" ["java/lang/RuntimeException", "java/lang/Exception"]).filter goodWord, w ∈ lw_tbl := by decide +kernel
theorem wsL_law_in : ∀ w ∈ wsL_law, w ∈ lw_tbl := fun w h => (List.mem_append.mp h).elim (fun h => (List.mem_append.mp h).elim (fun h => (List.mem_append.mp h).elim (fun h => wsL_law_in0 w h) (fun h => wsL_law_x0 w h)) (fun h => wsL_law_x1 w h)) (fun h => wsL_law_x2 w h)
theorem inlX0 : ∀ w ∈ wsX00, w ∈ wsL_law := fun _ h => List.mem_append_left _ (List.mem_append_left _ (List.mem_append_left _ (List.mem_append_left _ (List.mem_append_left _ (List.mem_append_left _ (List.mem_append_left _ (List.mem_append_left _ (List.mem_append_left _ (List.mem_append_right _ h)))))))))
theorem inX0 : ∀ w ∈ wsX00, w ∈ lw_tbl := fun w h => wsL_law_in w (inlX0 w h)
theorem inlX1 : ∀ w ∈ wsX10, w ∈ wsL_law := fun _ h => List.mem_append_left _ (List.mem_append_left _ (List.mem_append_left _ (List.mem_append_left _ (List.mem_append_left _ (List.mem_append_right _ h)))))
theorem inX1 : ∀ w ∈ wsX10, w ∈ lw_tbl := fun w h => wsL_law_in w (inlX1 w h)
theorem inlX2 : ∀ w ∈ wsX20, w ∈ wsL_law := fun _ h => List.mem_append_left _ (List.mem_append_left _ (List.mem_append_left _ (List.mem_append_left _ (List.mem_append_left _ (List.mem_append_left _ (List.mem_append_left _ (List.mem_append_left _ (List.mem_append_right _ h))))))))
theorem inX2 : ∀ w ∈ wsX20, w ∈ lw_tbl := fun w h => wsL_law_in w (inlX2 w h)
theorem inlX3 : ∀ w ∈ wsX30, w ∈ wsL_law := fun _ h => List.mem_append_left _ (List.mem_append_left _ (List.mem_append_left _ (List.mem_append_left _ (List.mem_append_left _ (List.mem_append_left _ (List.mem_append_right _ h))))))
theorem inX3 : ∀ w ∈ wsX30, w ∈ lw_tbl := fun w h => wsL_law_in w (inlX3 w h)
theorem inlX4 : ∀ w ∈ wsX40, w ∈ wsL_law := fun _ h => List.mem_append_left _ (List.mem_append_left _ (List.mem_append_left _ (List.mem_append_left _ (List.mem_append_left _ (List.mem_append_left _ (List.mem_append_left _ (List.mem_append_left _ (List.mem_append_left _ (List.mem_append_left _ (List.mem_append_right _ h))))))))))
theorem inX4 : ∀ w ∈ wsX40, w ∈ lw_tbl := fun w h => wsL_law_in w (inlX4 w h)
theorem inlX5 : ∀ w ∈ wsX50, w ∈ wsL_law := fun _ h => List.mem_append_left _ (List.mem_append_left _ (List.mem_append_left _ (List.mem_append_left _ (List.mem_append_right _ h))))
theorem inX5 : ∀ w ∈ wsX50, w ∈ lw_tbl := fun w h => wsL_law_in w (inlX5 w h)
theorem inlX6 : ∀ w ∈ wsX60, w ∈ wsL_law := fun _ h => List.mem_append_left _ (List.mem_append_left _ (List.mem_append_left _ (List.mem_append_left _ (List.mem_append_left _ (List.mem_append_left _ (List.mem_append_left _ (List.mem_append_right _ h)))))))
theorem inX6 : ∀ w ∈ wsX60, w ∈ lw_tbl := fun w h => wsL_law_in w (inlX6 w h)
theorem inlX7 : ∀ w ∈ wsX70, w ∈ wsL_law := fun _ h => List.mem_append_left _ (List.mem_append_left _ (List.mem_append_left _ (List.mem_append_left _ (List.mem_append_left _ (List.mem_append_left _ (List.mem_append_left _ (List.mem_append_left _ (List.mem_append_left _ (List.mem_append_left _ (List.mem_append_left _ (List.mem_append_right _ h)))))))))))
theorem inX7 : ∀ w ∈ wsX70, w ∈ lw_tbl := fun w h => wsL_law_in w (inlX7 w h)
theorem inX8 : ∀ w ∈ wsX80, w ∈ lw_tbl := by decide +kernel
theorem inJ6 : ∀ w ∈ wsJ60, w ∈ lw_tbl := by decide +kernel
theorem inJ9 : ∀ w ∈ wsJ90, w ∈ lw_tbl := by decide +kernel
theorem inJ0 : ∀ w ∈ wsJ00, w ∈ lw_tbl := by decide +kernel

