theorem wsX7_init_r1_im : ∀ w ∈ wsX7_init_r1, w ∈ wsL_law := ilc wl8 (ilc wl9 (ilc wl10 (ilc wl11 (ilc wl12 (ilc wl13 (ilc wl14 (ilc wl15 (ilc wl16 (ilc wl17 (ilc wl18 (ilc wl19 (ilc wl20 (ilc wl21 (ilc wl22 (ilc wl23 (ilc wl24 (ilc wl25 (ilc wl26 (ilc wl27 (ilc wl28 (ilc wl29 (ilc wl30 (ilc wl31 iln)))))))))))))))))))))))
theorem wsX7_init_r2_im : ∀ w ∈ wsX7_init_r2, w ∈ wsL_law := ilc wl32 (ilc wl33 (ilc wl34 (ilc wl3 (ilc wl35 (ilc wl36 (ilc wl37 (ilc wl38 (ilc wl39 (ilc wl40 (ilc wl41 (ilc wl42 (ilc wl43 (ilc wl44 (ilc wl45 (ilc wl46 (ilc wl47 (ilc wl48 (ilc wl49 (ilc wl50 (ilc wl51 (ilc wl52 (ilc wl53 (ilc wl54 iln)))))))))))))))))))))))
theorem wsX7_init_r3_im : ∀ w ∈ wsX7_init_r3, w ∈ wsL_law := ilc wl55 (ilc wl56 (ilc wl57 (ilc wl4 (ilc wl58 (ilc wl59 (ilc wl60 (ilc wl61 (ilc wl62 (ilc wl63 (ilc wl64 (ilc wl65 (ilc wl66 (ilc wl67 (ilc wl68 (ilc wl69 (ilc wl70 (ilc wl71 (ilc wl72 (ilc wl73 (ilc wl74 (ilc wl75 (ilc wl76 (ilc wl77 iln)))))))))))))))))))))))
theorem wsX7_init_r4_im : ∀ w ∈ wsX7_init_r4, w ∈ wsL_law := ilc wl78 (ilc wl79 (ilc wl80 (ilc wl81 (ilc wl82 (ilc wl83 (ilc wl84 (ilc wl85 (ilc wl86 (ilc wl87 (ilc wl88 (ilc wl89 (ilc wl90 (ilc wl91 (ilc wl92 (ilc wl93 (ilc wl94 iln))))))))))))))))
theorem wsX7_init_im : ∀ w ∈ wsX7_init, w ∈ wsL_law := ilc wl7 (ila (ila (ila (ila (ila (ila (ila (ila (ila wsX7_init_r1_im (ila wsX7_init_r2_im (ila wsX7_init_r3_im wsX7_init_r4_im))) wsX40_il) wsX70_il) wsX00_il) wsX20_il) wsX60_il) wsX30_il) wsX10_il) wsX50_il)
theorem ggL_law_X7_init : GoodIn wsL_law wsX7_init := goodIn_sub wsX7_init_im (by decide +kernel)
set_option maxRecDepth 20000 in
theorem gL_law_X7_init : GoodIn wsL_law (wsX7_init) := ggL_law_X7_init
theorem wsL_cell_im : ∀ w ∈ wsL_cell, w ∈ wsL_law := ilc wl98 (ilc wl99 iln)
theorem ggL_law_L_cell : GoodIn wsL_law wsL_cell := goodIn_sub wsL_cell_im (by decide +kernel)
set_option maxRecDepth 20000 in
theorem gL_law_L_cell : GoodIn wsL_law (va_wsS RL 164 yL_cell wsL_cell) := goodIn_app (goodIn_of _ (by decide +kernel)) ggL_law_L_cell
theorem wsL_low_im : ∀ w ∈ wsL_low, w ∈ wsL_law := ilc wl102 (iln)
theorem ggL_law_L_low : GoodIn wsL_law wsL_low := goodIn_sub wsL_low_im (by decide +kernel)
set_option maxRecDepth 20000 in
theorem gL_law_L_low : GoodIn wsL_law (va_wsS RL 123 yL_low wsL_low) := goodIn_app (goodIn_of _ (by decide +kernel)) ggL_law_L_low
theorem wsL_node_r1_im : ∀ w ∈ wsL_node_r1, w ∈ wsL_law := ilc wl106 (ilc wl107 (ilc wl108 (ilc wl109 (ilc wl2 (ilc wl110 (ilc wl111 (ilc wl112 (ilc wl14 (ilc wl30 (ilc wl113 (ilc wl114 (ilc wl115 (ilc wl13 (ilc wl116 (ilc wl117 (ilc wl118 (ilc wl119 (ilc wl120 (ilc wl121 (ilc wl29 (ilc wl122 (ilc wl123 (ilc wl124 iln)))))))))))))))))))))))
theorem wsL_node_r2_im : ∀ w ∈ wsL_node_r2, w ∈ wsL_law := ilc wl125 (ilc wl126 (ilc wl127 (ilc wl128 (ilc wl129 (ilc wl130 (ilc wl131 iln))))))
theorem wsL_node_im : ∀ w ∈ wsL_node, w ∈ wsL_law := ilc wl105 (ila (ila (ila (ila (ila wsL_node_r1_im wsL_node_r2_im) wsX70_il) wsX40_il) wsX30_il) at65_il)
theorem ggL_law_L_node : GoodIn wsL_law wsL_node := goodIn_sub wsL_node_im (by decide +kernel)
set_option maxRecDepth 20000 in
theorem gL_law_L_node : GoodIn wsL_law (va_wsS RL 168 yL_node wsL_node) := goodIn_app (goodIn_of _ (by decide +kernel)) ggL_law_L_node
theorem wsL_wire_r1_im : ∀ w ∈ wsL_wire_r1, w ∈ wsL_law := ilc wl135 (ilc wl136 (ilc wl106 (ilc wl137 (ilc wl138 (ilc wl139 (ilc wl2 (ilc wl140 (ilc wl141 (ilc wl142 (ilc wl111 (ilc wl112 (ilc wl14 (ilc wl143 (ilc wl30 (ilc wl144 (ilc wl145 (ilc wl146 (ilc wl147 (ilc wl148 (ilc wl149 (ilc wl150 (ilc wl151 (ilc wl152 iln)))))))))))))))))))))))
theorem wsL_wire_r2_im : ∀ w ∈ wsL_wire_r2, w ∈ wsL_law := ilc wl13 (ilc wl153 (ilc wl128 (ilc wl154 (ilc wl155 (ilc wl156 (ilc wl157 (ilc wl158 (ilc wl113 (ilc wl114 (ilc wl115 (ilc wl116 (ilc wl117 (ilc wl118 (ilc wl159 (ilc wl160 (ilc wl161 (ilc wl162 (ilc wl163 (ilc wl164 (ilc wl165 (ilc wl119 (ilc wl120 (ilc wl121 iln)))))))))))))))))))))))
theorem wsL_wire_r3_im : ∀ w ∈ wsL_wire_r3, w ∈ wsL_law := ilc wl29 (ilc wl122 (ilc wl123 (ilc wl166 (ilc wl167 (ilc wl168 (ilc wl169 (ilc wl170 (ilc wl40 (ilc wl41 (ilc wl42 (ilc wl130 (ilc wl131 iln))))))))))))
theorem wsL_wire_im : ∀ w ∈ wsL_wire, w ∈ wsL_law := ilc wl134 (ila (ila (ila (ila (ila (ila (ila wsL_wire_r1_im (ila wsL_wire_r2_im wsL_wire_r3_im)) wsX70_il) wsX40_il) wsX30_il) at87_il) at65_il) at187_il)
theorem ggL_law_L_wire : GoodIn wsL_law wsL_wire := goodIn_sub wsL_wire_im (by decide +kernel)
set_option maxRecDepth 20000 in
theorem gL_law_L_wire : GoodIn wsL_law (va_wsS RL 171 yL_wire wsL_wire) := goodIn_app (goodIn_of _ (by decide +kernel)) ggL_law_L_wire
theorem wsL_adds_im : ∀ w ∈ wsL_adds, w ∈ wsL_law := ilc wl173 (iln)
theorem ggL_law_L_adds : GoodIn wsL_law wsL_adds := goodIn_sub wsL_adds_im (by decide +kernel)
set_option maxRecDepth 20000 in
theorem gL_law_L_adds : GoodIn wsL_law (va_wsS RL 104 yL_adds wsL_adds) := goodIn_app (goodIn_of _ (by decide +kernel)) ggL_law_L_adds
theorem wsL_value_r1_im : ∀ w ∈ wsL_value_r1, w ∈ wsL_law := ilc wl135 (ilc wl136 (ilc wl177 (ilc wl178 (ilc wl179 (ilc wl2 (ilc wl180 (ilc wl141 (ilc wl142 (ilc wl181 (ilc wl182 (ilc wl183 (ilc wl184 (ilc wl148 (ilc wl149 (ilc wl14 (ilc wl185 (ilc wl186 (ilc wl187 (ilc wl13 (ilc wl188 (ilc wl129 (ilc wl189 (ilc wl151 iln)))))))))))))))))))))))
theorem wsL_value_r2_im : ∀ w ∈ wsL_value_r2, w ∈ wsL_law := ilc wl152 (ilc wl153 (ilc wl128 (ilc wl154 (ilc wl155 (ilc wl190 (ilc wl191 (ilc wl192 (ilc wl193 (ilc wl35 iln)))))))))
theorem wsL_value_im : ∀ w ∈ wsL_value, w ∈ wsL_law := ilc wl176 (ila (ila (ila (ila (ila wsL_value_r1_im wsL_value_r2_im) wsX70_il) wsX40_il) at87_il) at187_il)
theorem ggL_law_L_value : GoodIn wsL_law wsL_value := goodIn_sub wsL_value_im (by decide +kernel)
set_option maxRecDepth 20000 in
theorem gL_law_L_value : GoodIn wsL_law (va_wsS RL 174 yL_value wsL_value) := goodIn_app (goodIn_of _ (by decide +kernel)) ggL_law_L_value
theorem wsX7_simplify_r1_im : ∀ w ∈ wsX7_simplify_r1, w ∈ wsL_law := ilc wl30 (ilc wl198 (ilc wl199 (ilc wl200 (ilc wl29 (ilc wl201 (ilc wl69 (ilc wl202 (ilc wl2 (ilc wl203 (ilc wl204 (ilc wl205 (ilc wl206 (ilc wl13 (ilc wl207 (ilc wl170 (ilc wl154 (ilc wl155 (ilc wl208 (ilc wl151 (ilc wl152 (ilc wl153 (ilc wl128 (ilc wl209 iln)))))))))))))))))))))))
theorem wsX7_simplify_r2_im : ∀ w ∈ wsX7_simplify_r2, w ∈ wsL_law := ilc wl210 (ilc wl211 (ilc wl212 (ilc wl73 (ilc wl213 (ilc wl214 (ilc wl215 (ilc wl216 (ilc wl217 (ilc wl218 (ilc wl72 (ilc wl219 (ilc wl220 (ilc wl221 (ilc wl222 (ilc wl223 (ilc wl224 (ilc wl225 (ilc wl226 (ilc wl227 (ilc wl228 (ilc wl229 (ilc wl230 (ilc wl231 iln)))))))))))))))))))))))
theorem wsX7_simplify_r3_im : ∀ w ∈ wsX7_simplify_r3, w ∈ wsL_law := ilc wl232 (ilc wl233 (ilc wl234 (ilc wl235 (ilc wl236 (ilc wl237 (ilc wl238 (ilc wl239 (ilc wl40 (ilc wl240 (ilc wl241 (ilc wl242 (ilc wl243 (ilc wl41 (ilc wl130 (ilc wl131 (ilc wl244 (ilc wl245 (ilc wl246 (ilc wl247 (ilc wl248 (ilc wl249 (ilc wl250 (ilc wl251 iln)))))))))))))))))))))))
theorem wsX7_simplify_r4_im : ∀ w ∈ wsX7_simplify_r4, w ∈ wsL_law := ilc wl252 (ilc wl253 (ilc wl254 (ilc wl255 (ilc wl256 (ilc wl257 (ilc wl258 (ilc wl259 (ilc wl260 (ilc wl42 (ilc wl157 (ilc wl158 (ilc wl261 (ilc wl262 (ilc wl263 (ilc wl264 (ilc wl265 (ilc wl266 (ilc wl267 (ilc wl268 (ilc wl74 (ilc wl269 (ilc wl270 (ilc wl271 iln)))))))))))))))))))))))
theorem wsX7_simplify_r5_im : ∀ w ∈ wsX7_simplify_r5, w ∈ wsL_law := ilc wl272 (ilc wl273 (ilc wl274 (ilc wl186 (ilc wl187 (ilc wl188 (ilc wl129 (ilc wl189 (ilc wl275 (ilc wl160 (ilc wl161 (ilc wl162 (ilc wl163 (ilc wl164 (ilc wl165 (ilc wl276 (ilc wl277 (ilc wl278 (ilc wl279 (ilc wl280 (ilc wl281 (ilc wl282 (ilc wl283 (ilc wl284 iln)))))))))))))))))))))))
theorem wsX7_simplify_r6_im : ∀ w ∈ wsX7_simplify_r6, w ∈ wsL_law := ilc wl285 (ilc wl286 (ilc wl287 (ilc wl288 (ilc wl289 (ilc wl290 (ilc wl291 (ilc wl292 (ilc wl293 (ilc wl294 (ilc wl295 (ilc wl296 (ilc wl297 (ilc wl298 (ilc wl299 (ilc wl85 (ilc wl86 (ilc wl87 (ilc wl300 (ilc wl301 (ilc wl302 (ilc wl303 (ilc wl304 (ilc wl305 iln)))))))))))))))))))))))
theorem wsX7_simplify_r7_im : ∀ w ∈ wsX7_simplify_r7, w ∈ wsL_law := ilc wl306 (ilc wl307 (ilc wl308 (ilc wl309 (ilc wl310 (ilc wl311 (ilc wl312 (ilc wl313 (ilc wl314 (ilc wl315 (ilc wl316 (ilc wl317 (ilc wl114 (ilc wl115 (ilc wl116 (ilc wl117 (ilc wl118 (ilc wl318 (ilc wl319 (ilc wl320 (ilc wl321 (ilc wl123 (ilc wl75 (ilc wl322 iln)))))))))))))))))))))))
theorem wsX7_simplify_r8_im : ∀ w ∈ wsX7_simplify_r8, w ∈ wsL_law := ilc wl76 (ilc wl323 (ilc wl77 (ilc wl78 (ilc wl324 (ilc wl79 (ilc wl80 (ilc wl325 (ilc wl326 (ilc wl327 (ilc wl328 (ilc wl329 (ilc wl330 (ilc wl331 (ilc wl332 (ilc wl333 (ilc wl334 (ilc wl335 (ilc wl336 (ilc wl125 (ilc wl126 (ilc wl127 (ilc wl337 (ilc wl167 iln)))))))))))))))))))))))
theorem wsX7_simplify_r9_im : ∀ w ∈ wsX7_simplify_r9, w ∈ wsL_law := ilc wl168 (ilc wl169 iln)
theorem wsX7_simplify_im : ∀ w ∈ wsX7_simplify, w ∈ wsL_law := ilc wl197 (ila (ila (ila (ila (ila wsX7_simplify_r1_im (ila wsX7_simplify_r2_im (ila wsX7_simplify_r3_im (ila wsX7_simplify_r4_im (ila wsX7_simplify_r5_im (ila wsX7_simplify_r6_im (ila wsX7_simplify_r7_im (ila wsX7_simplify_r8_im wsX7_simplify_r9_im)))))))) wsX70_il) wsX30_il) wsX40_il) wsX50_il)
theorem ggL_law_X7_simplify : GoodIn wsL_law wsX7_simplify := goodIn_sub wsX7_simplify_im (by decide +kernel)
set_option maxRecDepth 20000 in
theorem gL_law_X7_simplify : GoodIn wsL_law (wsV RL 176 RX7 yX7_simplify wsX7_simplify) := goodIn_app (goodIn_of _ (by decide +kernel)) ggL_law_X7_simplify
theorem wsL_isThere_im : ∀ w ∈ wsL_isThere, w ∈ wsL_law := ilc wl340 (iln)
theorem ggL_law_L_isThere : GoodIn wsL_law wsL_isThere := goodIn_sub wsL_isThere_im (by decide +kernel)
set_option maxRecDepth 20000 in
theorem gL_law_L_isThere : GoodIn wsL_law (va_wsS RL 179 yL_isThere wsL_isThere) := goodIn_app (goodIn_of _ (by decide +kernel)) ggL_law_L_isThere
theorem wsL_does_im : ∀ w ∈ wsL_does, w ∈ wsL_law := ilc wl343 (ilc wl3 (ilc wl344 (ilc wl345 (ilc wl97 (ilc wl346 (ilc wl347 (ilc wl348 (ilc wl349 (ilc wl350 (ilc wl351 (ilc wl352 (ilc wl171 (ilc wl172 (ilc wl173 iln))))))))))))))
theorem ggL_law_L_does : GoodIn wsL_law wsL_does := goodIn_sub wsL_does_im (by decide +kernel)
set_option maxRecDepth 20000 in
theorem gL_law_L_does : GoodIn wsL_law (va_wsS RL 183 yL_does wsL_does) := goodIn_app (goodIn_of _ (by decide +kernel)) ggL_law_L_does
theorem wsX7_wires_im : ∀ w ∈ wsX7_wires, w ∈ wsL_law := ilc wl356 (ila (ila (ilc wl14 (ilc wl143 iln)) wsX70_il) wsX40_il)
theorem ggL_law_X7_wires : GoodIn wsL_law wsX7_wires := goodIn_sub wsX7_wires_im (by decide +kernel)
set_option maxRecDepth 20000 in
theorem gL_law_X7_wires : GoodIn wsL_law (wsV RL 111 RX7 yX7_wires wsX7_wires) := goodIn_app (goodIn_of _ (by decide +kernel)) ggL_law_X7_wires
theorem wsL_undo_r1_im : ∀ w ∈ wsL_undo_r1, w ∈ wsL_law := ilc wl106 (ilc wl360 (ilc wl361 (ilc wl362 (ilc wl2 (ilc wl363 (ilc wl111 (ilc wl112 (ilc wl30 (ilc wl364 (ilc wl365 (ilc wl366 (ilc wl29 (ilc wl367 (ilc wl123 (ilc wl368 (ilc wl369 (ilc wl370 (ilc wl371 (ilc wl69 (ilc wl75 (ilc wl322 (ilc wl76 (ilc wl323 iln)))))))))))))))))))))))
theorem wsL_undo_r2_im : ∀ w ∈ wsL_undo_r2, w ∈ wsL_law := ilc wl77 (ilc wl308 (ilc wl78 (ilc wl324 (ilc wl79 (ilc wl80 (ilc wl332 (ilc wl333 (ilc wl334 (ilc wl13 (ilc wl335 (ilc wl42 iln)))))))))))
theorem wsL_undo_im : ∀ w ∈ wsL_undo, w ∈ wsL_law := ilc wl359 (ila (ila (ila (ila (ila wsL_undo_r1_im wsL_undo_r2_im) wsX70_il) wsX30_il) wsX40_il) at65_il)
theorem ggL_law_L_undo : GoodIn wsL_law wsL_undo := goodIn_sub wsL_undo_im (by decide +kernel)
set_option maxRecDepth 20000 in
theorem gL_law_L_undo : GoodIn wsL_law (va_wsS RL 187 yL_undo wsL_undo) := goodIn_app (goodIn_of _ (by decide +kernel)) ggL_law_L_undo
theorem wsL_copies_im : ∀ w ∈ wsL_copies, w ∈ wsL_law := ilc wl374 (iln)
theorem ggL_law_L_copies : GoodIn wsL_law wsL_copies := goodIn_sub wsL_copies_im (by decide +kernel)
set_option maxRecDepth 20000 in
theorem gL_law_L_copies : GoodIn wsL_law (va_wsS RL 190 yL_copies wsL_copies) := goodIn_app (goodIn_of _ (by decide +kernel)) ggL_law_L_copies
theorem wsX7_mark_r1_im : ∀ w ∈ wsX7_mark_r1, w ∈ wsL_law := ilc wl34 (ilc wl14 (ilc wl379 (ilc wl380 (ilc wl381 (ilc wl382 (ilc wl33 (ilc wl383 (ilc wl384 (ilc wl385 (ilc wl386 (ilc wl387 (ilc wl2 (ilc wl388 (ilc wl18 (ilc wl389 (ilc wl390 (ilc wl391 (ilc wl17 (ilc wl392 (ilc wl393 (ilc wl394 (ilc wl395 (ilc wl396 iln)))))))))))))))))))))))
theorem wsX7_mark_r2_im : ∀ w ∈ wsX7_mark_r2, w ∈ wsL_law := ilc wl397 (ilc wl398 (ilc wl399 (ilc wl400 (ilc wl401 (ilc wl402 (ilc wl403 (ilc wl404 (ilc wl47 (ilc wl405 (ilc wl406 (ilc wl48 (ilc wl50 (ilc wl407 (ilc wl160 (ilc wl161 (ilc wl162 (ilc wl163 (ilc wl164 (ilc wl165 (ilc wl408 (ilc wl205 (ilc wl206 (ilc wl13 iln)))))))))))))))))))))))
theorem wsX7_mark_r3_im : ∀ w ∈ wsX7_mark_r3, w ∈ wsL_law := ilc wl207 (ilc wl170 (ilc wl154 (ilc wl155 (ilc wl409 (ilc wl233 (ilc wl234 (ilc wl235 (ilc wl236 (ilc wl237 (ilc wl238 (ilc wl239 (ilc wl40 (ilc wl240 (ilc wl241 (ilc wl242 (ilc wl243 (ilc wl41 (ilc wl130 (ilc wl131 (ilc wl410 (ilc wl411 (ilc wl412 (ilc wl413 iln)))))))))))))))))))))))
theorem wsX7_mark_r4_im : ∀ w ∈ wsX7_mark_r4, w ∈ wsL_law := ilc wl414 (ilc wl415 (ilc wl416 (ilc wl417 (ilc wl418 (ilc wl419 (ilc wl420 (ilc wl421 (ilc wl422 (ilc wl423 (ilc wl424 (ilc wl425 (ilc wl426 (ilc wl427 (ilc wl428 (ilc wl429 (ilc wl430 (ilc wl431 (ilc wl258 (ilc wl259 (ilc wl260 (ilc wl42 (ilc wl432 (ilc wl433 iln)))))))))))))))))))))))
theorem wsX7_mark_r5_im : ∀ w ∈ wsX7_mark_r5, w ∈ wsL_law := ilc wl434 (ilc wl435 (ilc wl436 (ilc wl437 (ilc wl438 (ilc wl439 (ilc wl440 (ilc wl441 (ilc wl442 (ilc wl443 (ilc wl444 (ilc wl445 (ilc wl446 (ilc wl447 (ilc wl448 (ilc wl449 (ilc wl450 (ilc wl451 (ilc wl452 (ilc wl453 (ilc wl454 (ilc wl455 (ilc wl456 (ilc wl457 iln)))))))))))))))))))))))
theorem wsX7_mark_r6_im : ∀ w ∈ wsX7_mark_r6, w ∈ wsL_law := ilc wl458 (ilc wl93 (ilc wl94 iln))
theorem wsX7_mark_im : ∀ w ∈ wsX7_mark, w ∈ wsL_law := ilc wl378 (ila (ila (ila (ila (ila wsX7_mark_r1_im (ila wsX7_mark_r2_im (ila wsX7_mark_r3_im (ila wsX7_mark_r4_im (ila wsX7_mark_r5_im wsX7_mark_r6_im))))) wsX70_il) wsX40_il) wsX10_il) wsX00_il)
theorem ggL_law_X7_mark : GoodIn wsL_law wsX7_mark := goodIn_sub wsX7_mark_im (by decide +kernel)
set_option maxRecDepth 20000 in
theorem gL_law_X7_mark : GoodIn wsL_law (wsV RL 194 RX7 yX7_mark wsX7_mark) := goodIn_app (goodIn_of _ (by decide +kernel)) ggL_law_X7_mark
theorem wsL_rest_im : ∀ w ∈ wsL_rest, w ∈ wsL_law := ilc wl461 (ilc wl462 (ilc wl463 (ilc wl97 (ilc wl464 (ilc wl465 (ilc wl466 (ilc wl467 (ilc wl4 (ilc wl3 (ilc wl468 (ilc wl469 (ilc wl470 iln))))))))))))
theorem ggL_law_L_rest : GoodIn wsL_law wsL_rest := goodIn_sub wsL_rest_im (by decide +kernel)
set_option maxRecDepth 20000 in
theorem gL_law_L_rest : GoodIn wsL_law (va_wsS RL 85 yL_rest wsL_rest) := goodIn_app (goodIn_of _ (by decide +kernel)) ggL_law_L_rest
theorem wsL_pair_im : ∀ w ∈ wsL_pair, w ∈ wsL_law := ilc wl473 (ilc wl468 (ilc wl469 (ilc wl97 (ilc wl470 (ilc wl459 (ilc wl460 (ilc wl461 (ilc wl462 (ilc wl463 (ilc wl464 (ilc wl465 (ilc wl466 (ilc wl467 (ilc wl4 (ilc wl3 iln)))))))))))))))
theorem ggL_law_L_pair : GoodIn wsL_law wsL_pair := goodIn_sub wsL_pair_im (by decide +kernel)
set_option maxRecDepth 20000 in
theorem gL_law_L_pair : GoodIn wsL_law (va_wsS RL 132 yL_pair wsL_pair) := goodIn_app (goodIn_of _ (by decide +kernel)) ggL_law_L_pair
theorem wsL_common_im : ∀ w ∈ wsL_common, w ∈ wsL_law := ilc wl476 (iln)
theorem ggL_law_L_common : GoodIn wsL_law wsL_common := goodIn_sub wsL_common_im (by decide +kernel)
set_option maxRecDepth 20000 in
theorem gL_law_L_common : GoodIn wsL_law (va_wsS RL 89 yL_common wsL_common) := goodIn_app (goodIn_of _ (by decide +kernel)) ggL_law_L_common
theorem wsL_move_r1_im : ∀ w ∈ wsL_move_r1, w ∈ wsL_law := ilc wl135 (ilc wl136 (ilc wl106 (ilc wl480 (ilc wl481 (ilc wl482 (ilc wl2 (ilc wl483 (ilc wl141 (ilc wl142 (ilc wl111 (ilc wl112 (ilc wl30 (ilc wl484 (ilc wl485 (ilc wl486 (ilc wl487 (ilc wl488 (ilc wl202 (ilc wl203 (ilc wl489 (ilc wl490 (ilc wl491 (ilc wl492 iln)))))))))))))))))))))))
theorem wsL_move_r2_im : ∀ w ∈ wsL_move_r2, w ∈ wsL_law := ilc wl148 (ilc wl149 (ilc wl14 (ilc wl493 (ilc wl205 (ilc wl206 (ilc wl13 (ilc wl207 (ilc wl170 (ilc wl154 (ilc wl155 (ilc wl144 (ilc wl145 (ilc wl146 (ilc wl147 (ilc wl150 (ilc wl151 (ilc wl152 (ilc wl153 (ilc wl128 (ilc wl494 (ilc wl210 (ilc wl211 (ilc wl29 iln)))))))))))))))))))))))
theorem wsL_move_r3_im : ∀ w ∈ wsL_move_r3, w ∈ wsL_law := ilc wl212 (ilc wl73 (ilc wl213 (ilc wl69 (ilc wl214 (ilc wl215 (ilc wl216 (ilc wl217 (ilc wl218 (ilc wl72 (ilc wl219 (ilc wl220 (ilc wl221 (ilc wl222 (ilc wl223 (ilc wl224 (ilc wl225 (ilc wl226 (ilc wl227 (ilc wl228 (ilc wl229 (ilc wl230 (ilc wl231 (ilc wl232 iln)))))))))))))))))))))))
theorem wsL_move_r4_im : ∀ w ∈ wsL_move_r4, w ∈ wsL_law := ilc wl233 (ilc wl234 (ilc wl235 (ilc wl236 (ilc wl237 (ilc wl238 (ilc wl239 (ilc wl40 (ilc wl240 (ilc wl241 (ilc wl242 (ilc wl243 (ilc wl41 (ilc wl130 (ilc wl131 (ilc wl244 (ilc wl245 (ilc wl246 (ilc wl247 (ilc wl248 (ilc wl249 (ilc wl250 (ilc wl251 (ilc wl252 iln)))))))))))))))))))))))
theorem wsL_move_r5_im : ∀ w ∈ wsL_move_r5, w ∈ wsL_law := ilc wl253 (ilc wl254 (ilc wl255 (ilc wl256 (ilc wl257 (ilc wl258 (ilc wl259 (ilc wl260 (ilc wl42 (ilc wl157 (ilc wl158 (ilc wl261 (ilc wl262 (ilc wl263 (ilc wl264 (ilc wl265 (ilc wl266 (ilc wl267 (ilc wl268 (ilc wl74 (ilc wl269 (ilc wl270 (ilc wl271 (ilc wl272 iln)))))))))))))))))))))))
theorem wsL_move_r6_im : ∀ w ∈ wsL_move_r6, w ∈ wsL_law := ilc wl273 (ilc wl274 (ilc wl186 (ilc wl187 (ilc wl188 (ilc wl129 (ilc wl189 (ilc wl275 (ilc wl160 (ilc wl161 (ilc wl162 (ilc wl163 (ilc wl164 (ilc wl165 (ilc wl276 (ilc wl277 (ilc wl278 (ilc wl279 (ilc wl280 (ilc wl281 (ilc wl282 (ilc wl283 (ilc wl284 (ilc wl285 iln)))))))))))))))))))))))
theorem wsL_move_r7_im : ∀ w ∈ wsL_move_r7, w ∈ wsL_law := ilc wl286 (ilc wl287 (ilc wl288 (ilc wl289 (ilc wl290 (ilc wl291 (ilc wl292 (ilc wl293 (ilc wl294 (ilc wl295 (ilc wl296 (ilc wl297 (ilc wl298 (ilc wl299 (ilc wl85 (ilc wl86 (ilc wl87 (ilc wl300 (ilc wl301 (ilc wl302 (ilc wl303 (ilc wl304 (ilc wl305 (ilc wl306 iln)))))))))))))))))))))))
theorem wsL_move_r8_im : ∀ w ∈ wsL_move_r8, w ∈ wsL_law := ilc wl307 (ilc wl308 (ilc wl309 (ilc wl310 (ilc wl311 (ilc wl312 (ilc wl204 (ilc wl313 (ilc wl314 (ilc wl315 (ilc wl316 (ilc wl317 (ilc wl114 (ilc wl115 (ilc wl116 (ilc wl117 (ilc wl118 (ilc wl318 (ilc wl319 (ilc wl320 (ilc wl321 (ilc wl123 (ilc wl75 (ilc wl322 iln)))))))))))))))))))))))
theorem wsL_move_r9_im : ∀ w ∈ wsL_move_r9, w ∈ wsL_law := ilc wl76 (ilc wl323 (ilc wl77 (ilc wl78 (ilc wl324 (ilc wl79 (ilc wl80 (ilc wl325 (ilc wl326 (ilc wl327 (ilc wl328 (ilc wl329 (ilc wl330 (ilc wl331 (ilc wl332 (ilc wl333 (ilc wl334 (ilc wl335 (ilc wl336 (ilc wl125 (ilc wl126 (ilc wl127 (ilc wl337 (ilc wl167 iln)))))))))))))))))))))))
theorem wsL_move_r10_im : ∀ w ∈ wsL_move_r10, w ∈ wsL_law := ilc wl168 (ilc wl169 iln)
theorem wsL_move_im : ∀ w ∈ wsL_move, w ∈ wsL_law := ilc wl479 (ila (ila (ila (ila (ila (ila (ila (ila wsL_move_r1_im (ila wsL_move_r2_im (ila wsL_move_r3_im (ila wsL_move_r4_im (ila wsL_move_r5_im (ila wsL_move_r6_im (ila wsL_move_r7_im (ila wsL_move_r8_im (ila wsL_move_r9_im wsL_move_r10_im))))))))) wsX70_il) wsX40_il) wsX30_il) wsX50_il) at87_il) at65_il) at187_il)
theorem ggL_law_L_move : GoodIn wsL_law wsL_move := goodIn_sub wsL_move_im (by decide +kernel)
set_option maxRecDepth 20000 in
theorem gL_law_L_move : GoodIn wsL_law (va_wsS RL 197 yL_move wsL_move) := goodIn_app (goodIn_of _ (by decide +kernel)) ggL_law_L_move
theorem wsL_is_im : ∀ w ∈ wsL_is, w ∈ wsL_law := ilc wl497 (ilc wl474 (ilc wl475 (ilc wl97 (ilc wl476 iln))))
theorem ggL_law_L_is : GoodIn wsL_law wsL_is := goodIn_sub wsL_is_im (by decide +kernel)
set_option maxRecDepth 20000 in
theorem gL_law_L_is : GoodIn wsL_law (va_wsS RL 135 yL_is wsL_is) := goodIn_app (goodIn_of _ (by decide +kernel)) ggL_law_L_is
theorem wsX7_keeps_r1_im : ∀ w ∈ wsX7_keeps_r1, w ∈ wsL_law := ilc wl34 (ilc wl385 (ilc wl386 (ilc wl387 (ilc wl2 (ilc wl388 (ilc wl18 (ilc wl14 (ilc wl379 (ilc wl389 (ilc wl390 (ilc wl391 (ilc wl17 (ilc wl392 (ilc wl393 (ilc wl394 (ilc wl395 (ilc wl396 (ilc wl397 (ilc wl398 (ilc wl399 (ilc wl400 (ilc wl401 (ilc wl402 iln)))))))))))))))))))))))
theorem wsX7_keeps_r2_im : ∀ w ∈ wsX7_keeps_r2, w ∈ wsL_law := ilc wl403 (ilc wl404 (ilc wl47 (ilc wl405 (ilc wl406 (ilc wl48 (ilc wl50 (ilc wl407 (ilc wl160 (ilc wl161 (ilc wl162 (ilc wl163 (ilc wl164 (ilc wl165 (ilc wl408 (ilc wl205 (ilc wl206 (ilc wl13 (ilc wl207 (ilc wl170 (ilc wl154 (ilc wl155 (ilc wl409 (ilc wl233 iln)))))))))))))))))))))))
theorem wsX7_keeps_r3_im : ∀ w ∈ wsX7_keeps_r3, w ∈ wsL_law := ilc wl234 (ilc wl235 (ilc wl236 (ilc wl237 (ilc wl238 (ilc wl239 (ilc wl40 (ilc wl240 (ilc wl241 (ilc wl242 (ilc wl243 (ilc wl41 (ilc wl130 (ilc wl131 (ilc wl410 (ilc wl411 (ilc wl412 (ilc wl413 (ilc wl414 (ilc wl415 (ilc wl416 (ilc wl417 (ilc wl418 (ilc wl419 iln)))))))))))))))))))))))
theorem wsX7_keeps_r4_im : ∀ w ∈ wsX7_keeps_r4, w ∈ wsL_law := ilc wl420 (ilc wl421 (ilc wl422 (ilc wl423 (ilc wl424 (ilc wl425 (ilc wl426 (ilc wl427 (ilc wl428 (ilc wl429 (ilc wl430 (ilc wl431 (ilc wl258 (ilc wl259 (ilc wl260 (ilc wl42 (ilc wl432 (ilc wl433 (ilc wl434 (ilc wl33 (ilc wl435 (ilc wl384 (ilc wl436 (ilc wl437 iln)))))))))))))))))))))))
theorem wsX7_keeps_r5_im : ∀ w ∈ wsX7_keeps_r5, w ∈ wsL_law := ilc wl438 (ilc wl439 (ilc wl440 (ilc wl441 (ilc wl442 (ilc wl443 (ilc wl444 (ilc wl445 (ilc wl446 (ilc wl447 (ilc wl448 (ilc wl449 (ilc wl450 (ilc wl451 (ilc wl452 (ilc wl453 (ilc wl454 (ilc wl502 (ilc wl503 (ilc wl504 (ilc wl505 (ilc wl93 (ilc wl94 iln))))))))))))))))))))))
theorem wsX7_keeps_im : ∀ w ∈ wsX7_keeps, w ∈ wsL_law := ilc wl501 (ila (ila (ila (ila (ila wsX7_keeps_r1_im (ila wsX7_keeps_r2_im (ila wsX7_keeps_r3_im (ila wsX7_keeps_r4_im wsX7_keeps_r5_im)))) wsX70_il) wsX40_il) wsX00_il) wsX10_il)
theorem ggL_law_X7_keeps : GoodIn wsL_law wsX7_keeps := goodIn_sub wsX7_keeps_im (by decide +kernel)
set_option maxRecDepth 20000 in
theorem gL_law_X7_keeps : GoodIn wsL_law (wsV RL 199 RX7 yX7_keeps wsX7_keeps) := goodIn_app (goodIn_of _ (by decide +kernel)) ggL_law_X7_keeps
theorem wsL_isTold_r1_im : ∀ w ∈ wsL_isTold_r1, w ∈ wsL_law := ilc wl509 (ilc wl510 (ilc wl459 (ilc wl460 (ilc wl97 (ilc wl461 (ilc wl462 (ilc wl463 (ilc wl464 (ilc wl465 (ilc wl466 (ilc wl467 (ilc wl4 (ilc wl3 (ilc wl468 (ilc wl469 (ilc wl470 (ilc wl511 (ilc wl512 (ilc wl513 (ilc wl2 (ilc wl514 (ilc wl14 (ilc wl515 iln)))))))))))))))))))))))
theorem wsL_isTold_r2_im : ∀ w ∈ wsL_isTold_r2, w ∈ wsL_law := ilc wl353 (ilc wl354 (ilc wl355 (ilc wl356 (ilc wl143 (ilc wl516 (ilc wl517 (ilc wl518 (ilc wl519 (ilc wl385 (ilc wl386 (ilc wl387 (ilc wl388 (ilc wl18 (ilc wl379 (ilc wl389 (ilc wl390 (ilc wl391 (ilc wl17 (ilc wl392 (ilc wl393 (ilc wl394 (ilc wl395 (ilc wl396 iln)))))))))))))))))))))))
theorem wsL_isTold_r3_im : ∀ w ∈ wsL_isTold_r3, w ∈ wsL_law := ilc wl397 (ilc wl398 (ilc wl399 (ilc wl400 (ilc wl401 (ilc wl402 (ilc wl403 (ilc wl404 (ilc wl47 (ilc wl405 (ilc wl406 (ilc wl48 (ilc wl50 (ilc wl407 (ilc wl160 (ilc wl161 (ilc wl162 (ilc wl163 (ilc wl164 (ilc wl165 (ilc wl408 (ilc wl205 (ilc wl206 (ilc wl13 iln)))))))))))))))))))))))
theorem wsL_isTold_r4_im : ∀ w ∈ wsL_isTold_r4, w ∈ wsL_law := ilc wl207 (ilc wl170 (ilc wl154 (ilc wl155 (ilc wl409 (ilc wl233 (ilc wl234 (ilc wl235 (ilc wl236 (ilc wl237 (ilc wl238 (ilc wl239 (ilc wl40 (ilc wl240 (ilc wl241 (ilc wl242 (ilc wl243 (ilc wl41 (ilc wl130 (ilc wl131 (ilc wl410 (ilc wl411 (ilc wl412 (ilc wl413 iln)))))))))))))))))))))))
theorem wsL_isTold_r5_im : ∀ w ∈ wsL_isTold_r5, w ∈ wsL_law := ilc wl414 (ilc wl415 (ilc wl416 (ilc wl417 (ilc wl418 (ilc wl419 (ilc wl420 (ilc wl421 (ilc wl422 (ilc wl423 (ilc wl424 (ilc wl425 (ilc wl426 (ilc wl427 (ilc wl428 (ilc wl429 (ilc wl430 (ilc wl431 (ilc wl258 (ilc wl259 (ilc wl260 (ilc wl42 (ilc wl520 (ilc wl521 iln)))))))))))))))))))))))
theorem wsL_isTold_r6_im : ∀ w ∈ wsL_isTold_r6, w ∈ wsL_law := ilc wl522 (ilc wl523 (ilc wl524 (ilc wl525 (ilc wl526 (ilc wl527 (ilc wl528 (ilc wl529 (ilc wl530 (ilc wl531 (ilc wl189 (ilc wl151 (ilc wl152 (ilc wl153 (ilc wl128 (ilc wl443 (ilc wl532 (ilc wl533 (ilc wl534 (ilc wl535 (ilc wl22 (ilc wl536 (ilc wl537 (ilc wl538 iln)))))))))))))))))))))))
theorem wsL_isTold_r7_im : ∀ w ∈ wsL_isTold_r7, w ∈ wsL_law := ilc wl21 (ilc wl539 (ilc wl55 (ilc wl58 (ilc wl540 (ilc wl541 (ilc wl542 (ilc wl543 (ilc wl544 (ilc wl56 (ilc wl545 (ilc wl546 (ilc wl547 (ilc wl548 (ilc wl549 (ilc wl550 (ilc wl551 (ilc wl552 (ilc wl553 (ilc wl554 (ilc wl555 (ilc wl556 (ilc wl557 (ilc wl558 iln)))))))))))))))))))))))
theorem wsL_isTold_r8_im : ∀ w ∈ wsL_isTold_r8, w ∈ wsL_law := ilc wl559 (ilc wl560 (ilc wl561 (ilc wl562 (ilc wl563 (ilc wl564 (ilc wl565 (ilc wl566 (ilc wl567 (ilc wl568 (ilc wl569 (ilc wl100 (ilc wl101 (ilc wl102 (ilc wl570 (ilc wl571 (ilc wl572 (ilc wl135 (ilc wl136 (ilc wl573 (ilc wl574 (ilc wl575 (ilc wl576 (ilc wl141 iln)))))))))))))))))))))))
theorem wsL_isTold_r9_im : ∀ w ∈ wsL_isTold_r9, w ∈ wsL_law := ilc wl142 (ilc wl489 (ilc wl490 (ilc wl491 (ilc wl492 (ilc wl148 (ilc wl149 (ilc wl493 (ilc wl577 (ilc wl578 (ilc wl579 (ilc wl580 (ilc wl581 (ilc wl582 (ilc wl583 (ilc wl584 (ilc wl585 (ilc wl586 (ilc wl181 (ilc wl182 (ilc wl183 (ilc wl184 (ilc wl185 (ilc wl186 iln)))))))))))))))))))))))
theorem wsL_isTold_r10_im : ∀ w ∈ wsL_isTold_r10, w ∈ wsL_law := ilc wl187 (ilc wl188 (ilc wl129 (ilc wl439 (ilc wl440 (ilc wl441 (ilc wl442 (ilc wl444 (ilc wl445 (ilc wl446 (ilc wl447 (ilc wl448 (ilc wl449 (ilc wl450 (ilc wl451 (ilc wl452 (ilc wl453 (ilc wl454 (ilc wl471 (ilc wl472 (ilc wl473 (ilc wl495 (ilc wl496 (ilc wl497 iln)))))))))))))))))))))))
theorem wsL_isTold_r11_im : ∀ w ∈ wsL_isTold_r11, w ∈ wsL_law := ilc wl474 (ilc wl475 (ilc wl476 (ilc wl587 (ilc wl588 (ilc wl589 (ilc wl590 (ilc wl591 (ilc wl592 (ilc wl593 (ilc wl144 (ilc wl145 (ilc wl146 (ilc wl147 (ilc wl150 (ilc wl594 (ilc wl595 (ilc wl596 (ilc wl597 (ilc wl598 (ilc wl599 (ilc wl600 (ilc wl601 (ilc wl602 iln)))))))))))))))))))))))
theorem wsL_isTold_r12_im : ∀ w ∈ wsL_isTold_r12, w ∈ wsL_law := ilc wl603 (ilc wl604 (ilc wl605 (ilc wl606 (ilc wl607 (ilc wl608 (ilc wl609 (ilc wl610 (ilc wl611 (ilc wl35 (ilc wl612 (ilc wl613 (ilc wl614 (ilc wl615 (ilc wl616 (ilc wl617 (ilc wl618 (ilc wl619 (ilc wl620 (ilc wl621 (ilc wl622 (ilc wl623 (ilc wl624 (ilc wl625 iln)))))))))))))))))))))))
theorem wsL_isTold_r13_im : ∀ w ∈ wsL_isTold_r13, w ∈ wsL_law := ilc wl626 (ilc wl627 (ilc wl628 (ilc wl629 (ilc wl630 (ilc wl631 (ilc wl632 (ilc wl633 (ilc wl634 (ilc wl635 (ilc wl636 (ilc wl637 (ilc wl638 (ilc wl639 (ilc wl640 (ilc wl641 (ilc wl642 (ilc wl643 (ilc wl159 (ilc wl644 (ilc wl645 (ilc wl646 (ilc wl647 (ilc wl347 iln)))))))))))))))))))))))
theorem wsL_isTold_r14_im : ∀ w ∈ wsL_isTold_r14, w ∈ wsL_law := ilc wl348 (ilc wl349 iln)
theorem wsL_isTold_im : ∀ w ∈ wsL_isTold, w ∈ wsL_law := ilc wl508 (ila (ila (ila (ila (ila (ila (ila wsL_isTold_r1_im (ila wsL_isTold_r2_im (ila wsL_isTold_r3_im (ila wsL_isTold_r4_im (ila wsL_isTold_r5_im (ila wsL_isTold_r6_im (ila wsL_isTold_r7_im (ila wsL_isTold_r8_im (ila wsL_isTold_r9_im (ila wsL_isTold_r10_im (ila wsL_isTold_r11_im (ila wsL_isTold_r12_im (ila wsL_isTold_r13_im wsL_isTold_r14_im))))))))))))) wsX70_il) wsX40_il) wsX00_il) wsX20_il) at87_il) at187_il)
theorem ggL_law_L_isTold : GoodIn wsL_law wsL_isTold := goodIn_sub wsL_isTold_im (by decide +kernel)
set_option maxRecDepth 20000 in
theorem gL_law_L_isTold : GoodIn wsL_law (va_wsS RL 203 yL_isTold wsL_isTold) := goodIn_app (goodIn_of _ (by decide +kernel)) ggL_law_L_isTold
theorem wsL_tree_r1_im : ∀ w ∈ wsL_tree_r1, w ∈ wsL_law := ilc wl136 (ilc wl651 (ilc wl652 (ilc wl653 (ilc wl2 (ilc wl654 (ilc wl141 (ilc wl142 (ilc wl18 (ilc wl655 (ilc wl656 (ilc wl657 (ilc wl17 (ilc wl658 (ilc wl47 (ilc wl659 (ilc wl399 (ilc wl660 (ilc wl529 (ilc wl530 (ilc wl13 (ilc wl531 (ilc wl189 (ilc wl151 iln)))))))))))))))))))))))
theorem wsL_tree_r2_im : ∀ w ∈ wsL_tree_r2, w ∈ wsL_law := ilc wl152 (ilc wl153 (ilc wl128 (ilc wl154 (ilc wl155 (ilc wl130 (ilc wl131 (ilc wl400 (ilc wl401 (ilc wl402 (ilc wl403 (ilc wl404 (ilc wl405 (ilc wl406 (ilc wl48 (ilc wl50 (ilc wl407 (ilc wl160 (ilc wl161 (ilc wl162 (ilc wl163 (ilc wl164 (ilc wl165 (ilc wl408 iln)))))))))))))))))))))))
theorem wsL_tree_r3_im : ∀ w ∈ wsL_tree_r3, w ∈ wsL_law := ilc wl205 (ilc wl206 (ilc wl207 (ilc wl170 (ilc wl409 (ilc wl233 (ilc wl234 (ilc wl235 (ilc wl236 (ilc wl237 (ilc wl238 (ilc wl239 (ilc wl40 (ilc wl240 (ilc wl241 (ilc wl242 (ilc wl243 (ilc wl41 (ilc wl661 (ilc wl662 (ilc wl663 (ilc wl421 (ilc wl422 (ilc wl423 iln)))))))))))))))))))))))
theorem wsL_tree_r4_im : ∀ w ∈ wsL_tree_r4, w ∈ wsL_law := ilc wl424 (ilc wl425 (ilc wl426 (ilc wl427 (ilc wl428 (ilc wl429 (ilc wl430 (ilc wl417 (ilc wl418 (ilc wl419 (ilc wl420 iln))))))))))
theorem wsL_tree_im : ∀ w ∈ wsL_tree, w ∈ wsL_law := ilc wl650 (ila (ila (ila (ila (ila wsL_tree_r1_im (ila wsL_tree_r2_im (ila wsL_tree_r3_im wsL_tree_r4_im))) wsX70_il) wsX00_il) wsX40_il) at87_il)
theorem ggL_law_L_tree : GoodIn wsL_law wsL_tree := goodIn_sub wsL_tree_im (by decide +kernel)
set_option maxRecDepth 20000 in
theorem gL_law_L_tree : GoodIn wsL_law (va_wsS RL 207 yL_tree wsL_tree) := goodIn_app (goodIn_of _ (by decide +kernel)) ggL_law_L_tree
