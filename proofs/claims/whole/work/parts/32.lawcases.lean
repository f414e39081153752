-- written by wip/gen (blockruler.py)
theorem wl303 : Cond.codeWith y_Law_block b_Law_block 3 (some .int) [(0, 8, 11, 13)] ∈ G_ := g_in (by decide +kernel) (by decide +kernel)
theorem wl304 : Cond.methodLink "BlockRulerLaw" 37 y_Law_block ∈ G_ := g_in (by decide +kernel) (by decide +kernel)
theorem wl305 : Cond.static y_Law_block ∈ G_ := g_in (by decide +kernel) (by decide +kernel)
theorem wl306 : Cond.initialized "BlockRulerLaw" ∈ G_ := g_in (by decide +kernel) (by decide +kernel)
theorem wl307 : Cond.methodLink "BlockRulerLaw" 42 y_Model_block ∈ G_ := g_in (by decide +kernel) (by decide +kernel)
theorem wl308 : Cond.instanceMethod y_Model_block ∈ G_ := g_in (by decide +kernel) (by decide +kernel)
theorem wl309 : Cond.selects "BlockRulerModel" y_Model_block y_Model_block ∈ G_ := g_in (by decide +kernel) (by decide +kernel)
theorem wl310 : Cond.code y_Model_block b_Model_block 1 (some .int) ∈ G_ := g_in (by decide +kernel) (by decide +kernel)
theorem wl311 : Cond.methodLink "BlockRulerLaw" 43 y_Model_thrown ∈ G_ := g_in (by decide +kernel) (by decide +kernel)
theorem wl312 : Cond.instanceMethod y_Model_thrown ∈ G_ := g_in (by decide +kernel) (by decide +kernel)
theorem wl313 : Cond.selects "BlockRulerModel" y_Model_thrown y_Model_thrown ∈ G_ := g_in (by decide +kernel) (by decide +kernel)
theorem wl314 : Cond.code y_Model_thrown b_Model_thrown 1 (some .int) ∈ G_ := g_in (by decide +kernel) (by decide +kernel)
theorem wl315 : Cond.codeWith y_Law_way b_Law_way 5 (some .int) [(0, 10, 13, 19), (0, 10, 17, 13)] ∈ G_ := g_in (by decide +kernel) (by decide +kernel)
theorem wl316 : Cond.methodLink "BlockRulerLaw" 46 y_Law_way ∈ G_ := g_in (by decide +kernel) (by decide +kernel)
theorem wl317 : Cond.static y_Law_way ∈ G_ := g_in (by decide +kernel) (by decide +kernel)
theorem wl318 : Cond.methodLink "BlockRulerLaw" 49 y_Model_way ∈ G_ := g_in (by decide +kernel) (by decide +kernel)
theorem wl319 : Cond.instanceMethod y_Model_way ∈ G_ := g_in (by decide +kernel) (by decide +kernel)
theorem wl320 : Cond.selects "BlockRulerModel" y_Model_way y_Model_way ∈ G_ := g_in (by decide +kernel) (by decide +kernel)
theorem wl321 : Cond.code y_Model_way b_Model_way 3 (some .int) ∈ G_ := g_in (by decide +kernel) (by decide +kernel)
theorem wl322 : Cond.codeWith y_Law_cut b_Law_cut 5 (some .int) [(0, 10, 13, 24)] ∈ G_ := g_in (by decide +kernel) (by decide +kernel)
theorem wl323 : Cond.methodLink "BlockRulerLaw" 50 y_Law_cut ∈ G_ := g_in (by decide +kernel) (by decide +kernel)
theorem wl324 : Cond.static y_Law_cut ∈ G_ := g_in (by decide +kernel) (by decide +kernel)
theorem wl325 : Cond.methodLink "BlockRulerLaw" 52 y_Model_cut ∈ G_ := g_in (by decide +kernel) (by decide +kernel)
theorem wl326 : Cond.instanceMethod y_Model_cut ∈ G_ := g_in (by decide +kernel) (by decide +kernel)
theorem wl327 : Cond.selects "BlockRulerModel" y_Model_cut y_Model_cut ∈ G_ := g_in (by decide +kernel) (by decide +kernel)
theorem wl328 : Cond.code y_Model_cut b_Model_cut 5 (some .int) ∈ G_ := g_in (by decide +kernel) (by decide +kernel)
theorem wl329 : Cond.codeWith y_Law_turn b_Law_turn 6 (some .int) [(0, 12, 15, 24), (0, 12, 19, 19)] ∈ G_ := g_in (by decide +kernel) (by decide +kernel)
theorem wl330 : Cond.methodLink "BlockRulerLaw" 53 y_Law_turn ∈ G_ := g_in (by decide +kernel) (by decide +kernel)
theorem wl331 : Cond.static y_Law_turn ∈ G_ := g_in (by decide +kernel) (by decide +kernel)
theorem wl332 : Cond.methodLink "BlockRulerLaw" 56 y_Model_turn ∈ G_ := g_in (by decide +kernel) (by decide +kernel)
theorem wl333 : Cond.instanceMethod y_Model_turn ∈ G_ := g_in (by decide +kernel) (by decide +kernel)
theorem wl334 : Cond.selects "BlockRulerModel" y_Model_turn y_Model_turn ∈ G_ := g_in (by decide +kernel) (by decide +kernel)
theorem wl335 : Cond.code y_Model_turn b_Model_turn 5 (some .int) ∈ G_ := g_in (by decide +kernel) (by decide +kernel)
theorem wl336 : Cond.methodLink "BlockRulerLaw" 57 y_BlockRuler_end ∈ G_ := g_in (by decide +kernel) (by decide +kernel)
theorem wl337 : Cond.instanceMethod y_BlockRuler_end ∈ G_ := g_in (by decide +kernel) (by decide +kernel)
theorem wl338 : Cond.selects "BlockRuler" y_BlockRuler_end y_BlockRuler_end ∈ G_ := g_in (by decide +kernel) (by decide +kernel)
theorem wl339 : Cond.code y_BlockRuler_end b_BlockRuler_end 3 (some .int) ∈ G_ := g_in (by decide +kernel) (by decide +kernel)
theorem wl340 : Cond.methodLink "BlockRulerLaw" 60 y_Model_end ∈ G_ := g_in (by decide +kernel) (by decide +kernel)
theorem wl341 : Cond.instanceMethod y_Model_end ∈ G_ := g_in (by decide +kernel) (by decide +kernel)
theorem wl342 : Cond.selects "BlockRulerModel" y_Model_end y_Model_end ∈ G_ := g_in (by decide +kernel) (by decide +kernel)
theorem wl343 : Cond.code y_Model_end b_Model_end 3 (some .int) ∈ G_ := g_in (by decide +kernel) (by decide +kernel)
theorem wl344 : Cond.methodLink "BlockRulerLaw" 61 y_BlockRuler_order ∈ G_ := g_in (by decide +kernel) (by decide +kernel)
theorem wl345 : Cond.instanceMethod y_BlockRuler_order ∈ G_ := g_in (by decide +kernel) (by decide +kernel)
theorem wl346 : Cond.selects "BlockRuler" y_BlockRuler_order y_BlockRuler_order ∈ G_ := g_in (by decide +kernel) (by decide +kernel)
theorem wl347 : Cond.code y_BlockRuler_order b_BlockRuler_order 2 (some .int) ∈ G_ := g_in (by decide +kernel) (by decide +kernel)
theorem wl348 : Cond.methodLink "BlockRulerLaw" 65 y_Model_order ∈ G_ := g_in (by decide +kernel) (by decide +kernel)
theorem wl349 : Cond.instanceMethod y_Model_order ∈ G_ := g_in (by decide +kernel) (by decide +kernel)
theorem wl350 : Cond.selects "BlockRulerModel" y_Model_order y_Model_order ∈ G_ := g_in (by decide +kernel) (by decide +kernel)
theorem wl351 : Cond.code y_Model_order b_Model_order 2 (some .int) ∈ G_ := g_in (by decide +kernel) (by decide +kernel)
theorem wl352 : Cond.methodLink "BlockRulerLaw" 66 y_BlockRuler_at ∈ G_ := g_in (by decide +kernel) (by decide +kernel)
theorem wl353 : Cond.instanceMethod y_BlockRuler_at ∈ G_ := g_in (by decide +kernel) (by decide +kernel)
theorem wl354 : Cond.selects "BlockRuler" y_BlockRuler_at y_BlockRuler_at ∈ G_ := g_in (by decide +kernel) (by decide +kernel)
theorem wl355 : Cond.code y_BlockRuler_at b_BlockRuler_at 2 (some .int) ∈ G_ := g_in (by decide +kernel) (by decide +kernel)
theorem wl356 : Cond.methodLink "BlockRulerLaw" 69 y_Model_at ∈ G_ := g_in (by decide +kernel) (by decide +kernel)
theorem wl357 : Cond.instanceMethod y_Model_at ∈ G_ := g_in (by decide +kernel) (by decide +kernel)
theorem wl358 : Cond.selects "BlockRulerModel" y_Model_at y_Model_at ∈ G_ := g_in (by decide +kernel) (by decide +kernel)
theorem wl359 : Cond.code y_Model_at b_Model_at 2 (some .int) ∈ G_ := g_in (by decide +kernel) (by decide +kernel)
theorem wl360 : Cond.methodLink "BlockRulerLaw" 70 y_BlockRuler_parent ∈ G_ := g_in (by decide +kernel) (by decide +kernel)
theorem wl361 : Cond.instanceMethod y_BlockRuler_parent ∈ G_ := g_in (by decide +kernel) (by decide +kernel)
theorem wl362 : Cond.selects "BlockRuler" y_BlockRuler_parent y_BlockRuler_parent ∈ G_ := g_in (by decide +kernel) (by decide +kernel)
theorem wl363 : Cond.code y_BlockRuler_parent b_BlockRuler_parent 2 (some .int) ∈ G_ := g_in (by decide +kernel) (by decide +kernel)
theorem wl364 : Cond.methodLink "BlockRulerLaw" 73 y_Model_parent ∈ G_ := g_in (by decide +kernel) (by decide +kernel)
theorem wl365 : Cond.instanceMethod y_Model_parent ∈ G_ := g_in (by decide +kernel) (by decide +kernel)
theorem wl366 : Cond.selects "BlockRulerModel" y_Model_parent y_Model_parent ∈ G_ := g_in (by decide +kernel) (by decide +kernel)
theorem wl367 : Cond.code y_Model_parent b_Model_parent 2 (some .int) ∈ G_ := g_in (by decide +kernel) (by decide +kernel)
theorem wl368 : Cond.methodLink "BlockRulerLaw" 74 y_BlockRuler_rules ∈ G_ := g_in (by decide +kernel) (by decide +kernel)
theorem wl369 : Cond.instanceMethod y_BlockRuler_rules ∈ G_ := g_in (by decide +kernel) (by decide +kernel)
theorem wl370 : Cond.selects "BlockRuler" y_BlockRuler_rules y_BlockRuler_rules ∈ G_ := g_in (by decide +kernel) (by decide +kernel)
theorem wl371 : Cond.code y_BlockRuler_rules b_BlockRuler_rules 3 (some .boolean) ∈ G_ := g_in (by decide +kernel) (by decide +kernel)
theorem wl372 : Cond.methodLink "BlockRulerLaw" 78 y_Model_rules ∈ G_ := g_in (by decide +kernel) (by decide +kernel)
theorem wl373 : Cond.instanceMethod y_Model_rules ∈ G_ := g_in (by decide +kernel) (by decide +kernel)
theorem wl374 : Cond.selects "BlockRulerModel" y_Model_rules y_Model_rules ∈ G_ := g_in (by decide +kernel) (by decide +kernel)
theorem wl375 : Cond.code y_Model_rules b_Model_rules 3 (some .boolean) ∈ G_ := g_in (by decide +kernel) (by decide +kernel)
theorem wl376 : Cond.codeWith y_Law_common b_Law_common 5 (some .int) [(0, 10, 13, 19)] ∈ G_ := g_in (by decide +kernel) (by decide +kernel)
theorem wl377 : Cond.methodLink "BlockRulerLaw" 79 y_Law_common ∈ G_ := g_in (by decide +kernel) (by decide +kernel)
theorem wl378 : Cond.static y_Law_common ∈ G_ := g_in (by decide +kernel) (by decide +kernel)
theorem wl379 : Cond.methodLink "BlockRulerLaw" 81 y_Model_common ∈ G_ := g_in (by decide +kernel) (by decide +kernel)
theorem wl380 : Cond.instanceMethod y_Model_common ∈ G_ := g_in (by decide +kernel) (by decide +kernel)
theorem wl381 : Cond.selects "BlockRulerModel" y_Model_common y_Model_common ∈ G_ := g_in (by decide +kernel) (by decide +kernel)
theorem wl382 : Cond.code y_Model_common b_Model_common 6 (some .int) ∈ G_ := g_in (by decide +kernel) (by decide +kernel)
theorem wl383 : Cond.methodLink "BlockRulerLaw" 82 y_BlockRuler_sort ∈ G_ := g_in (by decide +kernel) (by decide +kernel)
theorem wl384 : Cond.instanceMethod y_BlockRuler_sort ∈ G_ := g_in (by decide +kernel) (by decide +kernel)
theorem wl385 : Cond.selects "BlockRuler" y_BlockRuler_sort y_BlockRuler_sort ∈ G_ := g_in (by decide +kernel) (by decide +kernel)
theorem wl386 : Cond.code y_BlockRuler_sort b_BlockRuler_sort 3 (some .int) ∈ G_ := g_in (by decide +kernel) (by decide +kernel)
theorem wl387 : Cond.methodLink "BlockRulerLaw" 85 y_Model_sort ∈ G_ := g_in (by decide +kernel) (by decide +kernel)
theorem wl388 : Cond.instanceMethod y_Model_sort ∈ G_ := g_in (by decide +kernel) (by decide +kernel)
theorem wl389 : Cond.selects "BlockRulerModel" y_Model_sort y_Model_sort ∈ G_ := g_in (by decide +kernel) (by decide +kernel)
theorem wl390 : Cond.code y_Model_sort b_Model_sort 3 (some .int) ∈ G_ := g_in (by decide +kernel) (by decide +kernel)
theorem wl391 : Cond.methodLink "BlockRulerLaw" 86 y_BlockRuler_inLoop ∈ G_ := g_in (by decide +kernel) (by decide +kernel)
theorem wl392 : Cond.instanceMethod y_BlockRuler_inLoop ∈ G_ := g_in (by decide +kernel) (by decide +kernel)
theorem wl393 : Cond.selects "BlockRuler" y_BlockRuler_inLoop y_BlockRuler_inLoop ∈ G_ := g_in (by decide +kernel) (by decide +kernel)
theorem wl394 : Cond.code y_BlockRuler_inLoop b_BlockRuler_inLoop 3 (some .boolean) ∈ G_ := g_in (by decide +kernel) (by decide +kernel)
theorem wl395 : Cond.methodLink "BlockRulerLaw" 89 y_Model_inLoop ∈ G_ := g_in (by decide +kernel) (by decide +kernel)
theorem wl396 : Cond.instanceMethod y_Model_inLoop ∈ G_ := g_in (by decide +kernel) (by decide +kernel)
theorem wl397 : Cond.selects "BlockRulerModel" y_Model_inLoop y_Model_inLoop ∈ G_ := g_in (by decide +kernel) (by decide +kernel)
theorem wl398 : Cond.code y_Model_inLoop b_Model_inLoop 3 (some .boolean) ∈ G_ := g_in (by decide +kernel) (by decide +kernel)
theorem wl399 : Cond.methodLink "BlockRulerLaw" 90 y_BlockRuler_look ∈ G_ := g_in (by decide +kernel) (by decide +kernel)
theorem wl400 : Cond.instanceMethod y_BlockRuler_look ∈ G_ := g_in (by decide +kernel) (by decide +kernel)
theorem wl401 : Cond.selects "BlockRuler" y_BlockRuler_look y_BlockRuler_look ∈ G_ := g_in (by decide +kernel) (by decide +kernel)
theorem wl402 : Cond.code y_BlockRuler_look b_BlockRuler_look 3 (some .int) ∈ G_ := g_in (by decide +kernel) (by decide +kernel)
theorem wl403 : Cond.methodLink "BlockRulerLaw" 93 y_Model_look ∈ G_ := g_in (by decide +kernel) (by decide +kernel)
theorem wl404 : Cond.instanceMethod y_Model_look ∈ G_ := g_in (by decide +kernel) (by decide +kernel)
theorem wl405 : Cond.selects "BlockRulerModel" y_Model_look y_Model_look ∈ G_ := g_in (by decide +kernel) (by decide +kernel)
theorem wl406 : Cond.code y_Model_look b_Model_look 6 (some .int) ∈ G_ := g_in (by decide +kernel) (by decide +kernel)
theorem wl407 : Cond.methodLink "BlockRulerLaw" 94 y_BlockRuler_edge ∈ G_ := g_in (by decide +kernel) (by decide +kernel)
theorem wl408 : Cond.instanceMethod y_BlockRuler_edge ∈ G_ := g_in (by decide +kernel) (by decide +kernel)
theorem wl409 : Cond.selects "BlockRuler" y_BlockRuler_edge y_BlockRuler_edge ∈ G_ := g_in (by decide +kernel) (by decide +kernel)
theorem wl410 : Cond.code y_BlockRuler_edge b_BlockRuler_edge 3 (some .int) ∈ G_ := g_in (by decide +kernel) (by decide +kernel)
theorem wl411 : Cond.methodLink "BlockRulerLaw" 97 y_Model_edge ∈ G_ := g_in (by decide +kernel) (by decide +kernel)
theorem wl412 : Cond.instanceMethod y_Model_edge ∈ G_ := g_in (by decide +kernel) (by decide +kernel)
theorem wl413 : Cond.selects "BlockRulerModel" y_Model_edge y_Model_edge ∈ G_ := g_in (by decide +kernel) (by decide +kernel)
theorem wl414 : Cond.code y_Model_edge b_Model_edge 5 (some .int) ∈ G_ := g_in (by decide +kernel) (by decide +kernel)
theorem wl415 : Cond.methodLink "BlockRulerLaw" 98 y_BlockRuler_count ∈ G_ := g_in (by decide +kernel) (by decide +kernel)
theorem wl416 : Cond.instanceMethod y_BlockRuler_count ∈ G_ := g_in (by decide +kernel) (by decide +kernel)
theorem wl417 : Cond.selects "BlockRuler" y_BlockRuler_count y_BlockRuler_count ∈ G_ := g_in (by decide +kernel) (by decide +kernel)
theorem wl418 : Cond.code y_BlockRuler_count b_BlockRuler_count 2 (some .int) ∈ G_ := g_in (by decide +kernel) (by decide +kernel)
theorem wl419 : Cond.methodLink "BlockRulerLaw" 101 y_Model_count ∈ G_ := g_in (by decide +kernel) (by decide +kernel)
theorem wl420 : Cond.instanceMethod y_Model_count ∈ G_ := g_in (by decide +kernel) (by decide +kernel)
theorem wl421 : Cond.selects "BlockRulerModel" y_Model_count y_Model_count ∈ G_ := g_in (by decide +kernel) (by decide +kernel)
theorem wl422 : Cond.code y_Model_count b_Model_count 9 (some .int) ∈ G_ := g_in (by decide +kernel) (by decide +kernel)
theorem lg_same (f : Nat → Int64) (r : Int32) : lg_cmp (vp_updL f 0 (Int32.toInt64 r) (Int32.toNatClampNeg 0)) (Int32.toInt64 r) = 0 := by
  have e : vp_updL f 0 (Int32.toInt64 r) (Int32.toNatClampNeg 0) = Int32.toInt64 r := by
    unfold vp_updL
    exact if_pos (by decide)
  rw [e]
  unfold lg_cmp
  have h : ¬ Int32.toInt64 r > Int32.toInt64 r := by
    show ¬ Int32.toInt64 r < Int32.toInt64 r
    rw [Int64.lt_iff_toInt_lt]
    omega
  rw [if_neg h, if_pos rfl]
theorem d_Law_law_0 : decode b_Law_law 0 = .ok (.new 8, 3) := by decide +kernel
theorem d_Law_law_3 : decode b_Law_law 3 = .ok (.dup, 1) := by decide +kernel
theorem d_Law_law_4 : decode b_Law_law 4 = .ok (.invokespecial 33, 3) := by decide +kernel
theorem d_Law_law_7 : decode b_Law_law 7 = .ok (.astore_n 1, 1) := by decide +kernel
theorem d_Law_law_8 : decode b_Law_law 8 = .ok (.new 34, 3) := by decide +kernel
theorem d_Law_law_11 : decode b_Law_law 11 = .ok (.dup, 1) := by decide +kernel
theorem d_Law_law_12 : decode b_Law_law 12 = .ok (.invokespecial 36, 3) := by decide +kernel
theorem d_Law_law_15 : decode b_Law_law 15 = .ok (.astore_n 2, 1) := by decide +kernel
theorem d_Law_law_16 : decode b_Law_law 16 = .ok (.iconst 1, 1) := by decide +kernel
theorem d_Law_law_17 : decode b_Law_law 17 = .ok (.newarray .long, 2) := by decide +kernel
theorem d_Law_law_19 : decode b_Law_law 19 = .ok (.astore_n 3, 1) := by decide +kernel
theorem d_Law_law_20 : decode b_Law_law 20 = .ok (.iconst 0, 1) := by decide +kernel
theorem d_Law_law_21 : decode b_Law_law 21 = .ok (.istore 4, 2) := by decide +kernel
theorem d_Law_law_23 : decode b_Law_law 23 = .ok (.iload 4, 2) := by decide +kernel
theorem d_Law_law_25 : decode b_Law_law 25 = .ok (.aload_n 0, 1) := by decide +kernel
theorem d_Law_law_26 : decode b_Law_law 26 = .ok (.arraylength, 1) := by decide +kernel
theorem d_Law_law_27 : decode b_Law_law 27 = .ok (.iconst 4, 1) := by decide +kernel
theorem d_Law_law_28 : decode b_Law_law 28 = .ok (.isub, 1) := by decide +kernel
theorem d_Law_law_29 : decode b_Law_law 29 = .ok (.if_icmp .gt 739, 3) := by decide +kernel
theorem d_Law_law_32 : decode b_Law_law 32 = .ok (.aload_n 0, 1) := by decide +kernel
theorem d_Law_law_33 : decode b_Law_law 33 = .ok (.iload 4, 2) := by decide +kernel
theorem d_Law_law_35 : decode b_Law_law 35 = .ok (.iaload, 1) := by decide +kernel
theorem d_Law_law_36 : decode b_Law_law 36 = .ok (.bipush 15, 2) := by decide +kernel
theorem d_Law_law_38 : decode b_Law_law 38 = .ok (.iand, 1) := by decide +kernel
theorem d_Law_law_39 : decode b_Law_law 39 = .ok (.tableswitch 723 0 14 #[73, 117, 185, 253, 333, 370, 395, 420, 445, 482, 550, 587, 624, 661, 698], 73) := by decide +kernel
theorem d_Law_law_112 : decode b_Law_law 112 = .ok (.aload_n 1, 1) := by decide +kernel
theorem d_Law_law_113 : decode b_Law_law 113 = .ok (.aload_n 3, 1) := by decide +kernel
theorem d_Law_law_114 : decode b_Law_law 114 = .ok (.invokestatic 37, 3) := by decide +kernel
theorem d_Law_law_117 : decode b_Law_law 117 = .ok (.istore 5, 2) := by decide +kernel
theorem d_Law_law_119 : decode b_Law_law 119 = .ok (.aload_n 2, 1) := by decide +kernel
theorem d_Law_law_120 : decode b_Law_law 120 = .ok (.invokevirtual 42, 3) := by decide +kernel
theorem d_Law_law_123 : decode b_Law_law 123 = .ok (.istore 6, 2) := by decide +kernel
theorem d_Law_law_125 : decode b_Law_law 125 = .ok (.aload_n 2, 1) := by decide +kernel
theorem d_Law_law_126 : decode b_Law_law 126 = .ok (.invokevirtual 43, 3) := by decide +kernel
theorem d_Law_law_129 : decode b_Law_law 129 = .ok (.iload 5, 2) := by decide +kernel
theorem d_Law_law_131 : decode b_Law_law 131 = .ok (.if_icmp .eq 5, 3) := by decide +kernel
theorem d_Law_law_134 : decode b_Law_law 134 = .ok (.iconst 0, 1) := by decide +kernel
theorem d_Law_law_135 : decode b_Law_law 135 = .ok (.ireturn, 1) := by decide +kernel
theorem d_Law_law_136 : decode b_Law_law 136 = .ok (.iload 5, 2) := by decide +kernel
theorem d_Law_law_138 : decode b_Law_law 138 = .ok (.ifCond .ne 15, 3) := by decide +kernel
theorem d_Law_law_141 : decode b_Law_law 141 = .ok (.aload_n 3, 1) := by decide +kernel
theorem d_Law_law_142 : decode b_Law_law 142 = .ok (.iconst 0, 1) := by decide +kernel
theorem d_Law_law_143 : decode b_Law_law 143 = .ok (.laload, 1) := by decide +kernel
theorem d_Law_law_144 : decode b_Law_law 144 = .ok (.iload 6, 2) := by decide +kernel
theorem d_Law_law_146 : decode b_Law_law 146 = .ok (.i2l, 1) := by decide +kernel
theorem d_Law_law_147 : decode b_Law_law 147 = .ok (.lcmp, 1) := by decide +kernel
theorem d_Law_law_148 : decode b_Law_law 148 = .ok (.ifCond .eq 5, 3) := by decide +kernel
theorem d_Law_law_151 : decode b_Law_law 151 = .ok (.iconst 0, 1) := by decide +kernel
theorem d_Law_law_152 : decode b_Law_law 152 = .ok (.ireturn, 1) := by decide +kernel
theorem d_Law_law_153 : decode b_Law_law 153 = .ok (.goto 609, 3) := by decide +kernel
theorem d_Law_law_156 : decode b_Law_law 156 = .ok (.aload_n 1, 1) := by decide +kernel
theorem d_Law_law_157 : decode b_Law_law 157 = .ok (.aload_n 0, 1) := by decide +kernel
theorem d_Law_law_158 : decode b_Law_law 158 = .ok (.iload 4, 2) := by decide +kernel
theorem d_Law_law_160 : decode b_Law_law 160 = .ok (.iconst 1, 1) := by decide +kernel
theorem d_Law_law_161 : decode b_Law_law 161 = .ok (.iadd, 1) := by decide +kernel
theorem d_Law_law_162 : decode b_Law_law 162 = .ok (.iaload, 1) := by decide +kernel
theorem d_Law_law_163 : decode b_Law_law 163 = .ok (.aload_n 0, 1) := by decide +kernel
theorem d_Law_law_164 : decode b_Law_law 164 = .ok (.iload 4, 2) := by decide +kernel
theorem d_Law_law_166 : decode b_Law_law 166 = .ok (.iconst 2, 1) := by decide +kernel
theorem d_Law_law_167 : decode b_Law_law 167 = .ok (.iadd, 1) := by decide +kernel
theorem d_Law_law_168 : decode b_Law_law 168 = .ok (.iaload, 1) := by decide +kernel
theorem d_Law_law_169 : decode b_Law_law 169 = .ok (.aload_n 3, 1) := by decide +kernel
theorem d_Law_law_170 : decode b_Law_law 170 = .ok (.invokestatic 46, 3) := by decide +kernel
theorem d_Law_law_173 : decode b_Law_law 173 = .ok (.istore 5, 2) := by decide +kernel
theorem d_Law_law_175 : decode b_Law_law 175 = .ok (.aload_n 2, 1) := by decide +kernel
theorem d_Law_law_176 : decode b_Law_law 176 = .ok (.aload_n 0, 1) := by decide +kernel
theorem d_Law_law_177 : decode b_Law_law 177 = .ok (.iload 4, 2) := by decide +kernel
theorem d_Law_law_179 : decode b_Law_law 179 = .ok (.iconst 1, 1) := by decide +kernel
theorem d_Law_law_180 : decode b_Law_law 180 = .ok (.iadd, 1) := by decide +kernel
theorem d_Law_law_181 : decode b_Law_law 181 = .ok (.iaload, 1) := by decide +kernel
theorem d_Law_law_182 : decode b_Law_law 182 = .ok (.aload_n 0, 1) := by decide +kernel
theorem d_Law_law_183 : decode b_Law_law 183 = .ok (.iload 4, 2) := by decide +kernel
theorem d_Law_law_185 : decode b_Law_law 185 = .ok (.iconst 2, 1) := by decide +kernel
theorem d_Law_law_186 : decode b_Law_law 186 = .ok (.iadd, 1) := by decide +kernel
theorem d_Law_law_187 : decode b_Law_law 187 = .ok (.iaload, 1) := by decide +kernel
theorem d_Law_law_188 : decode b_Law_law 188 = .ok (.invokevirtual 49, 3) := by decide +kernel
theorem d_Law_law_191 : decode b_Law_law 191 = .ok (.istore 6, 2) := by decide +kernel
theorem d_Law_law_193 : decode b_Law_law 193 = .ok (.aload_n 2, 1) := by decide +kernel
theorem d_Law_law_194 : decode b_Law_law 194 = .ok (.invokevirtual 43, 3) := by decide +kernel
theorem d_Law_law_197 : decode b_Law_law 197 = .ok (.iload 5, 2) := by decide +kernel
theorem d_Law_law_199 : decode b_Law_law 199 = .ok (.if_icmp .eq 5, 3) := by decide +kernel
theorem d_Law_law_202 : decode b_Law_law 202 = .ok (.iconst 0, 1) := by decide +kernel
theorem d_Law_law_203 : decode b_Law_law 203 = .ok (.ireturn, 1) := by decide +kernel
theorem d_Law_law_204 : decode b_Law_law 204 = .ok (.iload 5, 2) := by decide +kernel
theorem d_Law_law_206 : decode b_Law_law 206 = .ok (.ifCond .ne 15, 3) := by decide +kernel
theorem d_Law_law_209 : decode b_Law_law 209 = .ok (.aload_n 3, 1) := by decide +kernel
theorem d_Law_law_210 : decode b_Law_law 210 = .ok (.iconst 0, 1) := by decide +kernel
theorem d_Law_law_211 : decode b_Law_law 211 = .ok (.laload, 1) := by decide +kernel
theorem d_Law_law_212 : decode b_Law_law 212 = .ok (.iload 6, 2) := by decide +kernel
theorem d_Law_law_214 : decode b_Law_law 214 = .ok (.i2l, 1) := by decide +kernel
theorem d_Law_law_215 : decode b_Law_law 215 = .ok (.lcmp, 1) := by decide +kernel
theorem d_Law_law_216 : decode b_Law_law 216 = .ok (.ifCond .eq 5, 3) := by decide +kernel
theorem d_Law_law_219 : decode b_Law_law 219 = .ok (.iconst 0, 1) := by decide +kernel
theorem d_Law_law_220 : decode b_Law_law 220 = .ok (.ireturn, 1) := by decide +kernel
theorem d_Law_law_221 : decode b_Law_law 221 = .ok (.goto 541, 3) := by decide +kernel
theorem d_Law_law_224 : decode b_Law_law 224 = .ok (.aload_n 1, 1) := by decide +kernel
theorem d_Law_law_225 : decode b_Law_law 225 = .ok (.aload_n 0, 1) := by decide +kernel
theorem d_Law_law_226 : decode b_Law_law 226 = .ok (.iload 4, 2) := by decide +kernel
theorem d_Law_law_228 : decode b_Law_law 228 = .ok (.iconst 1, 1) := by decide +kernel
theorem d_Law_law_229 : decode b_Law_law 229 = .ok (.iadd, 1) := by decide +kernel
theorem d_Law_law_230 : decode b_Law_law 230 = .ok (.iaload, 1) := by decide +kernel
theorem d_Law_law_231 : decode b_Law_law 231 = .ok (.aload_n 0, 1) := by decide +kernel
theorem d_Law_law_232 : decode b_Law_law 232 = .ok (.iload 4, 2) := by decide +kernel
theorem d_Law_law_234 : decode b_Law_law 234 = .ok (.iconst 2, 1) := by decide +kernel
theorem d_Law_law_235 : decode b_Law_law 235 = .ok (.iadd, 1) := by decide +kernel
theorem d_Law_law_236 : decode b_Law_law 236 = .ok (.iaload, 1) := by decide +kernel
theorem d_Law_law_237 : decode b_Law_law 237 = .ok (.aload_n 3, 1) := by decide +kernel
theorem d_Law_law_238 : decode b_Law_law 238 = .ok (.invokestatic 50, 3) := by decide +kernel
theorem d_Law_law_241 : decode b_Law_law 241 = .ok (.istore 5, 2) := by decide +kernel
theorem d_Law_law_243 : decode b_Law_law 243 = .ok (.aload_n 2, 1) := by decide +kernel
theorem d_Law_law_244 : decode b_Law_law 244 = .ok (.aload_n 0, 1) := by decide +kernel
theorem d_Law_law_245 : decode b_Law_law 245 = .ok (.iload 4, 2) := by decide +kernel
theorem d_Law_law_247 : decode b_Law_law 247 = .ok (.iconst 1, 1) := by decide +kernel
theorem d_Law_law_248 : decode b_Law_law 248 = .ok (.iadd, 1) := by decide +kernel
theorem d_Law_law_249 : decode b_Law_law 249 = .ok (.iaload, 1) := by decide +kernel
theorem d_Law_law_250 : decode b_Law_law 250 = .ok (.aload_n 0, 1) := by decide +kernel
theorem d_Law_law_251 : decode b_Law_law 251 = .ok (.iload 4, 2) := by decide +kernel
theorem d_Law_law_253 : decode b_Law_law 253 = .ok (.iconst 2, 1) := by decide +kernel
theorem d_Law_law_254 : decode b_Law_law 254 = .ok (.iadd, 1) := by decide +kernel
theorem d_Law_law_255 : decode b_Law_law 255 = .ok (.iaload, 1) := by decide +kernel
theorem d_Law_law_256 : decode b_Law_law 256 = .ok (.invokevirtual 52, 3) := by decide +kernel
theorem d_Law_law_259 : decode b_Law_law 259 = .ok (.istore 6, 2) := by decide +kernel
theorem d_Law_law_261 : decode b_Law_law 261 = .ok (.aload_n 2, 1) := by decide +kernel
theorem d_Law_law_262 : decode b_Law_law 262 = .ok (.invokevirtual 43, 3) := by decide +kernel
theorem d_Law_law_265 : decode b_Law_law 265 = .ok (.iload 5, 2) := by decide +kernel
theorem d_Law_law_267 : decode b_Law_law 267 = .ok (.if_icmp .eq 5, 3) := by decide +kernel
theorem d_Law_law_270 : decode b_Law_law 270 = .ok (.iconst 0, 1) := by decide +kernel
theorem d_Law_law_271 : decode b_Law_law 271 = .ok (.ireturn, 1) := by decide +kernel
theorem d_Law_law_272 : decode b_Law_law 272 = .ok (.iload 5, 2) := by decide +kernel
theorem d_Law_law_274 : decode b_Law_law 274 = .ok (.ifCond .ne 15, 3) := by decide +kernel
theorem d_Law_law_277 : decode b_Law_law 277 = .ok (.aload_n 3, 1) := by decide +kernel
theorem d_Law_law_278 : decode b_Law_law 278 = .ok (.iconst 0, 1) := by decide +kernel
theorem d_Law_law_279 : decode b_Law_law 279 = .ok (.laload, 1) := by decide +kernel
theorem d_Law_law_280 : decode b_Law_law 280 = .ok (.iload 6, 2) := by decide +kernel
theorem d_Law_law_282 : decode b_Law_law 282 = .ok (.i2l, 1) := by decide +kernel
theorem d_Law_law_283 : decode b_Law_law 283 = .ok (.lcmp, 1) := by decide +kernel
theorem d_Law_law_284 : decode b_Law_law 284 = .ok (.ifCond .eq 5, 3) := by decide +kernel
theorem d_Law_law_287 : decode b_Law_law 287 = .ok (.iconst 0, 1) := by decide +kernel
theorem d_Law_law_288 : decode b_Law_law 288 = .ok (.ireturn, 1) := by decide +kernel
theorem d_Law_law_289 : decode b_Law_law 289 = .ok (.goto 473, 3) := by decide +kernel
theorem d_Law_law_292 : decode b_Law_law 292 = .ok (.aload_n 1, 1) := by decide +kernel
theorem d_Law_law_293 : decode b_Law_law 293 = .ok (.aload_n 0, 1) := by decide +kernel
theorem d_Law_law_294 : decode b_Law_law 294 = .ok (.iload 4, 2) := by decide +kernel
theorem d_Law_law_296 : decode b_Law_law 296 = .ok (.iconst 1, 1) := by decide +kernel
theorem d_Law_law_297 : decode b_Law_law 297 = .ok (.iadd, 1) := by decide +kernel
theorem d_Law_law_298 : decode b_Law_law 298 = .ok (.iaload, 1) := by decide +kernel
theorem d_Law_law_299 : decode b_Law_law 299 = .ok (.aload_n 0, 1) := by decide +kernel
theorem d_Law_law_300 : decode b_Law_law 300 = .ok (.iload 4, 2) := by decide +kernel
theorem d_Law_law_302 : decode b_Law_law 302 = .ok (.iconst 2, 1) := by decide +kernel
theorem d_Law_law_303 : decode b_Law_law 303 = .ok (.iadd, 1) := by decide +kernel
theorem d_Law_law_304 : decode b_Law_law 304 = .ok (.iaload, 1) := by decide +kernel
theorem d_Law_law_305 : decode b_Law_law 305 = .ok (.aload_n 0, 1) := by decide +kernel
theorem d_Law_law_306 : decode b_Law_law 306 = .ok (.iload 4, 2) := by decide +kernel
theorem d_Law_law_308 : decode b_Law_law 308 = .ok (.iconst 3, 1) := by decide +kernel
theorem d_Law_law_309 : decode b_Law_law 309 = .ok (.iadd, 1) := by decide +kernel
theorem d_Law_law_310 : decode b_Law_law 310 = .ok (.iaload, 1) := by decide +kernel
theorem d_Law_law_311 : decode b_Law_law 311 = .ok (.aload_n 3, 1) := by decide +kernel
theorem d_Law_law_312 : decode b_Law_law 312 = .ok (.invokestatic 53, 3) := by decide +kernel
theorem d_Law_law_315 : decode b_Law_law 315 = .ok (.istore 5, 2) := by decide +kernel
theorem d_Law_law_317 : decode b_Law_law 317 = .ok (.aload_n 2, 1) := by decide +kernel
theorem d_Law_law_318 : decode b_Law_law 318 = .ok (.aload_n 0, 1) := by decide +kernel
theorem d_Law_law_319 : decode b_Law_law 319 = .ok (.iload 4, 2) := by decide +kernel
theorem d_Law_law_321 : decode b_Law_law 321 = .ok (.iconst 1, 1) := by decide +kernel
theorem d_Law_law_322 : decode b_Law_law 322 = .ok (.iadd, 1) := by decide +kernel
theorem d_Law_law_323 : decode b_Law_law 323 = .ok (.iaload, 1) := by decide +kernel
theorem d_Law_law_324 : decode b_Law_law 324 = .ok (.aload_n 0, 1) := by decide +kernel
theorem d_Law_law_325 : decode b_Law_law 325 = .ok (.iload 4, 2) := by decide +kernel
theorem d_Law_law_327 : decode b_Law_law 327 = .ok (.iconst 2, 1) := by decide +kernel
theorem d_Law_law_328 : decode b_Law_law 328 = .ok (.iadd, 1) := by decide +kernel
theorem d_Law_law_329 : decode b_Law_law 329 = .ok (.iaload, 1) := by decide +kernel
theorem d_Law_law_330 : decode b_Law_law 330 = .ok (.aload_n 0, 1) := by decide +kernel
theorem d_Law_law_331 : decode b_Law_law 331 = .ok (.iload 4, 2) := by decide +kernel
theorem d_Law_law_333 : decode b_Law_law 333 = .ok (.iconst 3, 1) := by decide +kernel
theorem d_Law_law_334 : decode b_Law_law 334 = .ok (.iadd, 1) := by decide +kernel
theorem d_Law_law_335 : decode b_Law_law 335 = .ok (.iaload, 1) := by decide +kernel
theorem d_Law_law_336 : decode b_Law_law 336 = .ok (.invokevirtual 56, 3) := by decide +kernel
theorem d_Law_law_339 : decode b_Law_law 339 = .ok (.istore 6, 2) := by decide +kernel
theorem d_Law_law_341 : decode b_Law_law 341 = .ok (.aload_n 2, 1) := by decide +kernel
theorem d_Law_law_342 : decode b_Law_law 342 = .ok (.invokevirtual 43, 3) := by decide +kernel
theorem d_Law_law_345 : decode b_Law_law 345 = .ok (.iload 5, 2) := by decide +kernel
theorem d_Law_law_347 : decode b_Law_law 347 = .ok (.if_icmp .eq 5, 3) := by decide +kernel
theorem d_Law_law_350 : decode b_Law_law 350 = .ok (.iconst 0, 1) := by decide +kernel
theorem d_Law_law_351 : decode b_Law_law 351 = .ok (.ireturn, 1) := by decide +kernel
theorem d_Law_law_352 : decode b_Law_law 352 = .ok (.iload 5, 2) := by decide +kernel
theorem d_Law_law_354 : decode b_Law_law 354 = .ok (.ifCond .ne 15, 3) := by decide +kernel
theorem d_Law_law_357 : decode b_Law_law 357 = .ok (.aload_n 3, 1) := by decide +kernel
theorem d_Law_law_358 : decode b_Law_law 358 = .ok (.iconst 0, 1) := by decide +kernel
theorem d_Law_law_359 : decode b_Law_law 359 = .ok (.laload, 1) := by decide +kernel
theorem d_Law_law_360 : decode b_Law_law 360 = .ok (.iload 6, 2) := by decide +kernel
theorem d_Law_law_362 : decode b_Law_law 362 = .ok (.i2l, 1) := by decide +kernel
theorem d_Law_law_363 : decode b_Law_law 363 = .ok (.lcmp, 1) := by decide +kernel
theorem d_Law_law_364 : decode b_Law_law 364 = .ok (.ifCond .eq 5, 3) := by decide +kernel
theorem d_Law_law_367 : decode b_Law_law 367 = .ok (.iconst 0, 1) := by decide +kernel
theorem d_Law_law_368 : decode b_Law_law 368 = .ok (.ireturn, 1) := by decide +kernel
theorem d_Law_law_369 : decode b_Law_law 369 = .ok (.goto 393, 3) := by decide +kernel
theorem d_Law_law_372 : decode b_Law_law 372 = .ok (.aload_n 1, 1) := by decide +kernel
theorem d_Law_law_373 : decode b_Law_law 373 = .ok (.aload_n 0, 1) := by decide +kernel
theorem d_Law_law_374 : decode b_Law_law 374 = .ok (.iload 4, 2) := by decide +kernel
theorem d_Law_law_376 : decode b_Law_law 376 = .ok (.iconst 1, 1) := by decide +kernel
theorem d_Law_law_377 : decode b_Law_law 377 = .ok (.iadd, 1) := by decide +kernel
theorem d_Law_law_378 : decode b_Law_law 378 = .ok (.iaload, 1) := by decide +kernel
theorem d_Law_law_379 : decode b_Law_law 379 = .ok (.aload_n 0, 1) := by decide +kernel
theorem d_Law_law_380 : decode b_Law_law 380 = .ok (.iload 4, 2) := by decide +kernel
theorem d_Law_law_382 : decode b_Law_law 382 = .ok (.iconst 2, 1) := by decide +kernel
theorem d_Law_law_383 : decode b_Law_law 383 = .ok (.iadd, 1) := by decide +kernel
theorem d_Law_law_384 : decode b_Law_law 384 = .ok (.iaload, 1) := by decide +kernel
theorem d_Law_law_385 : decode b_Law_law 385 = .ok (.invokevirtual 57, 3) := by decide +kernel
theorem d_Law_law_388 : decode b_Law_law 388 = .ok (.aload_n 2, 1) := by decide +kernel
theorem d_Law_law_389 : decode b_Law_law 389 = .ok (.aload_n 0, 1) := by decide +kernel
theorem d_Law_law_390 : decode b_Law_law 390 = .ok (.iload 4, 2) := by decide +kernel
theorem d_Law_law_392 : decode b_Law_law 392 = .ok (.iconst 1, 1) := by decide +kernel
theorem d_Law_law_393 : decode b_Law_law 393 = .ok (.iadd, 1) := by decide +kernel
theorem d_Law_law_394 : decode b_Law_law 394 = .ok (.iaload, 1) := by decide +kernel
theorem d_Law_law_395 : decode b_Law_law 395 = .ok (.aload_n 0, 1) := by decide +kernel
theorem d_Law_law_396 : decode b_Law_law 396 = .ok (.iload 4, 2) := by decide +kernel
theorem d_Law_law_398 : decode b_Law_law 398 = .ok (.iconst 2, 1) := by decide +kernel
theorem d_Law_law_399 : decode b_Law_law 399 = .ok (.iadd, 1) := by decide +kernel
theorem d_Law_law_400 : decode b_Law_law 400 = .ok (.iaload, 1) := by decide +kernel
theorem d_Law_law_401 : decode b_Law_law 401 = .ok (.invokevirtual 60, 3) := by decide +kernel
theorem d_Law_law_404 : decode b_Law_law 404 = .ok (.if_icmp .eq 358, 3) := by decide +kernel
theorem d_Law_law_407 : decode b_Law_law 407 = .ok (.iconst 0, 1) := by decide +kernel
theorem d_Law_law_408 : decode b_Law_law 408 = .ok (.ireturn, 1) := by decide +kernel
theorem d_Law_law_409 : decode b_Law_law 409 = .ok (.aload_n 1, 1) := by decide +kernel
theorem d_Law_law_410 : decode b_Law_law 410 = .ok (.aload_n 0, 1) := by decide +kernel
theorem d_Law_law_411 : decode b_Law_law 411 = .ok (.iload 4, 2) := by decide +kernel
theorem d_Law_law_413 : decode b_Law_law 413 = .ok (.iconst 1, 1) := by decide +kernel
theorem d_Law_law_414 : decode b_Law_law 414 = .ok (.iadd, 1) := by decide +kernel
theorem d_Law_law_415 : decode b_Law_law 415 = .ok (.iaload, 1) := by decide +kernel
theorem d_Law_law_416 : decode b_Law_law 416 = .ok (.invokevirtual 61, 3) := by decide +kernel
theorem d_Law_law_419 : decode b_Law_law 419 = .ok (.aload_n 2, 1) := by decide +kernel
theorem d_Law_law_420 : decode b_Law_law 420 = .ok (.aload_n 0, 1) := by decide +kernel
theorem d_Law_law_421 : decode b_Law_law 421 = .ok (.iload 4, 2) := by decide +kernel
theorem d_Law_law_423 : decode b_Law_law 423 = .ok (.iconst 1, 1) := by decide +kernel
theorem d_Law_law_424 : decode b_Law_law 424 = .ok (.iadd, 1) := by decide +kernel
theorem d_Law_law_425 : decode b_Law_law 425 = .ok (.iaload, 1) := by decide +kernel
theorem d_Law_law_426 : decode b_Law_law 426 = .ok (.invokevirtual 65, 3) := by decide +kernel
theorem d_Law_law_429 : decode b_Law_law 429 = .ok (.if_icmp .eq 333, 3) := by decide +kernel
theorem d_Law_law_432 : decode b_Law_law 432 = .ok (.iconst 0, 1) := by decide +kernel
theorem d_Law_law_433 : decode b_Law_law 433 = .ok (.ireturn, 1) := by decide +kernel
theorem d_Law_law_434 : decode b_Law_law 434 = .ok (.aload_n 1, 1) := by decide +kernel
theorem d_Law_law_435 : decode b_Law_law 435 = .ok (.aload_n 0, 1) := by decide +kernel
theorem d_Law_law_436 : decode b_Law_law 436 = .ok (.iload 4, 2) := by decide +kernel
theorem d_Law_law_438 : decode b_Law_law 438 = .ok (.iconst 1, 1) := by decide +kernel
theorem d_Law_law_439 : decode b_Law_law 439 = .ok (.iadd, 1) := by decide +kernel
theorem d_Law_law_440 : decode b_Law_law 440 = .ok (.iaload, 1) := by decide +kernel
theorem d_Law_law_441 : decode b_Law_law 441 = .ok (.invokevirtual 66, 3) := by decide +kernel
theorem d_Law_law_444 : decode b_Law_law 444 = .ok (.aload_n 2, 1) := by decide +kernel
theorem d_Law_law_445 : decode b_Law_law 445 = .ok (.aload_n 0, 1) := by decide +kernel
theorem d_Law_law_446 : decode b_Law_law 446 = .ok (.iload 4, 2) := by decide +kernel
theorem d_Law_law_448 : decode b_Law_law 448 = .ok (.iconst 1, 1) := by decide +kernel
theorem d_Law_law_449 : decode b_Law_law 449 = .ok (.iadd, 1) := by decide +kernel
theorem d_Law_law_450 : decode b_Law_law 450 = .ok (.iaload, 1) := by decide +kernel
theorem d_Law_law_451 : decode b_Law_law 451 = .ok (.invokevirtual 69, 3) := by decide +kernel
theorem d_Law_law_454 : decode b_Law_law 454 = .ok (.if_icmp .eq 308, 3) := by decide +kernel
theorem d_Law_law_457 : decode b_Law_law 457 = .ok (.iconst 0, 1) := by decide +kernel
theorem d_Law_law_458 : decode b_Law_law 458 = .ok (.ireturn, 1) := by decide +kernel
theorem d_Law_law_459 : decode b_Law_law 459 = .ok (.aload_n 1, 1) := by decide +kernel
theorem d_Law_law_460 : decode b_Law_law 460 = .ok (.aload_n 0, 1) := by decide +kernel
theorem d_Law_law_461 : decode b_Law_law 461 = .ok (.iload 4, 2) := by decide +kernel
theorem d_Law_law_463 : decode b_Law_law 463 = .ok (.iconst 1, 1) := by decide +kernel
theorem d_Law_law_464 : decode b_Law_law 464 = .ok (.iadd, 1) := by decide +kernel
theorem d_Law_law_465 : decode b_Law_law 465 = .ok (.iaload, 1) := by decide +kernel
theorem d_Law_law_466 : decode b_Law_law 466 = .ok (.invokevirtual 70, 3) := by decide +kernel
theorem d_Law_law_469 : decode b_Law_law 469 = .ok (.aload_n 2, 1) := by decide +kernel
theorem d_Law_law_470 : decode b_Law_law 470 = .ok (.aload_n 0, 1) := by decide +kernel
theorem d_Law_law_471 : decode b_Law_law 471 = .ok (.iload 4, 2) := by decide +kernel
theorem d_Law_law_473 : decode b_Law_law 473 = .ok (.iconst 1, 1) := by decide +kernel
theorem d_Law_law_474 : decode b_Law_law 474 = .ok (.iadd, 1) := by decide +kernel
theorem d_Law_law_475 : decode b_Law_law 475 = .ok (.iaload, 1) := by decide +kernel
theorem d_Law_law_476 : decode b_Law_law 476 = .ok (.invokevirtual 73, 3) := by decide +kernel
theorem d_Law_law_479 : decode b_Law_law 479 = .ok (.if_icmp .eq 283, 3) := by decide +kernel
theorem d_Law_law_482 : decode b_Law_law 482 = .ok (.iconst 0, 1) := by decide +kernel
theorem d_Law_law_483 : decode b_Law_law 483 = .ok (.ireturn, 1) := by decide +kernel
theorem d_Law_law_484 : decode b_Law_law 484 = .ok (.aload_n 1, 1) := by decide +kernel
theorem d_Law_law_485 : decode b_Law_law 485 = .ok (.aload_n 0, 1) := by decide +kernel
theorem d_Law_law_486 : decode b_Law_law 486 = .ok (.iload 4, 2) := by decide +kernel
theorem d_Law_law_488 : decode b_Law_law 488 = .ok (.iconst 1, 1) := by decide +kernel
theorem d_Law_law_489 : decode b_Law_law 489 = .ok (.iadd, 1) := by decide +kernel
theorem d_Law_law_490 : decode b_Law_law 490 = .ok (.iaload, 1) := by decide +kernel
theorem d_Law_law_491 : decode b_Law_law 491 = .ok (.aload_n 0, 1) := by decide +kernel
theorem d_Law_law_492 : decode b_Law_law 492 = .ok (.iload 4, 2) := by decide +kernel
theorem d_Law_law_494 : decode b_Law_law 494 = .ok (.iconst 2, 1) := by decide +kernel
theorem d_Law_law_495 : decode b_Law_law 495 = .ok (.iadd, 1) := by decide +kernel
theorem d_Law_law_496 : decode b_Law_law 496 = .ok (.iaload, 1) := by decide +kernel
theorem d_Law_law_497 : decode b_Law_law 497 = .ok (.invokevirtual 74, 3) := by decide +kernel
theorem d_Law_law_500 : decode b_Law_law 500 = .ok (.aload_n 2, 1) := by decide +kernel
theorem d_Law_law_501 : decode b_Law_law 501 = .ok (.aload_n 0, 1) := by decide +kernel
theorem d_Law_law_502 : decode b_Law_law 502 = .ok (.iload 4, 2) := by decide +kernel
theorem d_Law_law_504 : decode b_Law_law 504 = .ok (.iconst 1, 1) := by decide +kernel
theorem d_Law_law_505 : decode b_Law_law 505 = .ok (.iadd, 1) := by decide +kernel
theorem d_Law_law_506 : decode b_Law_law 506 = .ok (.iaload, 1) := by decide +kernel
theorem d_Law_law_507 : decode b_Law_law 507 = .ok (.aload_n 0, 1) := by decide +kernel
theorem d_Law_law_508 : decode b_Law_law 508 = .ok (.iload 4, 2) := by decide +kernel
theorem d_Law_law_510 : decode b_Law_law 510 = .ok (.iconst 2, 1) := by decide +kernel
theorem d_Law_law_511 : decode b_Law_law 511 = .ok (.iadd, 1) := by decide +kernel
theorem d_Law_law_512 : decode b_Law_law 512 = .ok (.iaload, 1) := by decide +kernel
theorem d_Law_law_513 : decode b_Law_law 513 = .ok (.invokevirtual 78, 3) := by decide +kernel
theorem d_Law_law_516 : decode b_Law_law 516 = .ok (.if_icmp .eq 246, 3) := by decide +kernel
theorem d_Law_law_519 : decode b_Law_law 519 = .ok (.iconst 0, 1) := by decide +kernel
theorem d_Law_law_520 : decode b_Law_law 520 = .ok (.ireturn, 1) := by decide +kernel
theorem d_Law_law_521 : decode b_Law_law 521 = .ok (.aload_n 1, 1) := by decide +kernel
theorem d_Law_law_522 : decode b_Law_law 522 = .ok (.aload_n 0, 1) := by decide +kernel
theorem d_Law_law_523 : decode b_Law_law 523 = .ok (.iload 4, 2) := by decide +kernel
theorem d_Law_law_525 : decode b_Law_law 525 = .ok (.iconst 1, 1) := by decide +kernel
theorem d_Law_law_526 : decode b_Law_law 526 = .ok (.iadd, 1) := by decide +kernel
theorem d_Law_law_527 : decode b_Law_law 527 = .ok (.iaload, 1) := by decide +kernel
theorem d_Law_law_528 : decode b_Law_law 528 = .ok (.aload_n 0, 1) := by decide +kernel
theorem d_Law_law_529 : decode b_Law_law 529 = .ok (.iload 4, 2) := by decide +kernel
theorem d_Law_law_531 : decode b_Law_law 531 = .ok (.iconst 2, 1) := by decide +kernel
theorem d_Law_law_532 : decode b_Law_law 532 = .ok (.iadd, 1) := by decide +kernel
theorem d_Law_law_533 : decode b_Law_law 533 = .ok (.iaload, 1) := by decide +kernel
theorem d_Law_law_534 : decode b_Law_law 534 = .ok (.aload_n 3, 1) := by decide +kernel
theorem d_Law_law_535 : decode b_Law_law 535 = .ok (.invokestatic 79, 3) := by decide +kernel
theorem d_Law_law_538 : decode b_Law_law 538 = .ok (.istore 5, 2) := by decide +kernel
theorem d_Law_law_540 : decode b_Law_law 540 = .ok (.aload_n 2, 1) := by decide +kernel
theorem d_Law_law_541 : decode b_Law_law 541 = .ok (.aload_n 0, 1) := by decide +kernel
theorem d_Law_law_542 : decode b_Law_law 542 = .ok (.iload 4, 2) := by decide +kernel
theorem d_Law_law_544 : decode b_Law_law 544 = .ok (.iconst 1, 1) := by decide +kernel
theorem d_Law_law_545 : decode b_Law_law 545 = .ok (.iadd, 1) := by decide +kernel
theorem d_Law_law_546 : decode b_Law_law 546 = .ok (.iaload, 1) := by decide +kernel
theorem d_Law_law_547 : decode b_Law_law 547 = .ok (.aload_n 0, 1) := by decide +kernel
theorem d_Law_law_548 : decode b_Law_law 548 = .ok (.iload 4, 2) := by decide +kernel
theorem d_Law_law_550 : decode b_Law_law 550 = .ok (.iconst 2, 1) := by decide +kernel
theorem d_Law_law_551 : decode b_Law_law 551 = .ok (.iadd, 1) := by decide +kernel
theorem d_Law_law_552 : decode b_Law_law 552 = .ok (.iaload, 1) := by decide +kernel
theorem d_Law_law_553 : decode b_Law_law 553 = .ok (.invokevirtual 81, 3) := by decide +kernel
theorem d_Law_law_556 : decode b_Law_law 556 = .ok (.istore 6, 2) := by decide +kernel
theorem d_Law_law_558 : decode b_Law_law 558 = .ok (.aload_n 2, 1) := by decide +kernel
theorem d_Law_law_559 : decode b_Law_law 559 = .ok (.invokevirtual 43, 3) := by decide +kernel
theorem d_Law_law_562 : decode b_Law_law 562 = .ok (.iload 5, 2) := by decide +kernel
theorem d_Law_law_564 : decode b_Law_law 564 = .ok (.if_icmp .eq 5, 3) := by decide +kernel
theorem d_Law_law_567 : decode b_Law_law 567 = .ok (.iconst 0, 1) := by decide +kernel
theorem d_Law_law_568 : decode b_Law_law 568 = .ok (.ireturn, 1) := by decide +kernel
theorem d_Law_law_569 : decode b_Law_law 569 = .ok (.iload 5, 2) := by decide +kernel
theorem d_Law_law_571 : decode b_Law_law 571 = .ok (.ifCond .ne 15, 3) := by decide +kernel
theorem d_Law_law_574 : decode b_Law_law 574 = .ok (.aload_n 3, 1) := by decide +kernel
theorem d_Law_law_575 : decode b_Law_law 575 = .ok (.iconst 0, 1) := by decide +kernel
theorem d_Law_law_576 : decode b_Law_law 576 = .ok (.laload, 1) := by decide +kernel
theorem d_Law_law_577 : decode b_Law_law 577 = .ok (.iload 6, 2) := by decide +kernel
theorem d_Law_law_579 : decode b_Law_law 579 = .ok (.i2l, 1) := by decide +kernel
theorem d_Law_law_580 : decode b_Law_law 580 = .ok (.lcmp, 1) := by decide +kernel
theorem d_Law_law_581 : decode b_Law_law 581 = .ok (.ifCond .eq 5, 3) := by decide +kernel
theorem d_Law_law_584 : decode b_Law_law 584 = .ok (.iconst 0, 1) := by decide +kernel
theorem d_Law_law_585 : decode b_Law_law 585 = .ok (.ireturn, 1) := by decide +kernel
theorem d_Law_law_586 : decode b_Law_law 586 = .ok (.goto 176, 3) := by decide +kernel
theorem d_Law_law_589 : decode b_Law_law 589 = .ok (.aload_n 1, 1) := by decide +kernel
theorem d_Law_law_590 : decode b_Law_law 590 = .ok (.aload_n 0, 1) := by decide +kernel
theorem d_Law_law_591 : decode b_Law_law 591 = .ok (.iload 4, 2) := by decide +kernel
theorem d_Law_law_593 : decode b_Law_law 593 = .ok (.iconst 1, 1) := by decide +kernel
theorem d_Law_law_594 : decode b_Law_law 594 = .ok (.iadd, 1) := by decide +kernel
theorem d_Law_law_595 : decode b_Law_law 595 = .ok (.iaload, 1) := by decide +kernel
theorem d_Law_law_596 : decode b_Law_law 596 = .ok (.aload_n 0, 1) := by decide +kernel
theorem d_Law_law_597 : decode b_Law_law 597 = .ok (.iload 4, 2) := by decide +kernel
theorem d_Law_law_599 : decode b_Law_law 599 = .ok (.iconst 2, 1) := by decide +kernel
theorem d_Law_law_600 : decode b_Law_law 600 = .ok (.iadd, 1) := by decide +kernel
theorem d_Law_law_601 : decode b_Law_law 601 = .ok (.iaload, 1) := by decide +kernel
theorem d_Law_law_602 : decode b_Law_law 602 = .ok (.invokevirtual 82, 3) := by decide +kernel
theorem d_Law_law_605 : decode b_Law_law 605 = .ok (.aload_n 2, 1) := by decide +kernel
theorem d_Law_law_606 : decode b_Law_law 606 = .ok (.aload_n 0, 1) := by decide +kernel
theorem d_Law_law_607 : decode b_Law_law 607 = .ok (.iload 4, 2) := by decide +kernel
theorem d_Law_law_609 : decode b_Law_law 609 = .ok (.iconst 1, 1) := by decide +kernel
theorem d_Law_law_610 : decode b_Law_law 610 = .ok (.iadd, 1) := by decide +kernel
theorem d_Law_law_611 : decode b_Law_law 611 = .ok (.iaload, 1) := by decide +kernel
theorem d_Law_law_612 : decode b_Law_law 612 = .ok (.aload_n 0, 1) := by decide +kernel
theorem d_Law_law_613 : decode b_Law_law 613 = .ok (.iload 4, 2) := by decide +kernel
theorem d_Law_law_615 : decode b_Law_law 615 = .ok (.iconst 2, 1) := by decide +kernel
theorem d_Law_law_616 : decode b_Law_law 616 = .ok (.iadd, 1) := by decide +kernel
theorem d_Law_law_617 : decode b_Law_law 617 = .ok (.iaload, 1) := by decide +kernel
theorem d_Law_law_618 : decode b_Law_law 618 = .ok (.invokevirtual 85, 3) := by decide +kernel
theorem d_Law_law_621 : decode b_Law_law 621 = .ok (.if_icmp .eq 141, 3) := by decide +kernel
theorem d_Law_law_624 : decode b_Law_law 624 = .ok (.iconst 0, 1) := by decide +kernel
theorem d_Law_law_625 : decode b_Law_law 625 = .ok (.ireturn, 1) := by decide +kernel
theorem d_Law_law_626 : decode b_Law_law 626 = .ok (.aload_n 1, 1) := by decide +kernel
theorem d_Law_law_627 : decode b_Law_law 627 = .ok (.aload_n 0, 1) := by decide +kernel
theorem d_Law_law_628 : decode b_Law_law 628 = .ok (.iload 4, 2) := by decide +kernel
theorem d_Law_law_630 : decode b_Law_law 630 = .ok (.iconst 1, 1) := by decide +kernel
theorem d_Law_law_631 : decode b_Law_law 631 = .ok (.iadd, 1) := by decide +kernel
theorem d_Law_law_632 : decode b_Law_law 632 = .ok (.iaload, 1) := by decide +kernel
theorem d_Law_law_633 : decode b_Law_law 633 = .ok (.aload_n 0, 1) := by decide +kernel
theorem d_Law_law_634 : decode b_Law_law 634 = .ok (.iload 4, 2) := by decide +kernel
theorem d_Law_law_636 : decode b_Law_law 636 = .ok (.iconst 2, 1) := by decide +kernel
theorem d_Law_law_637 : decode b_Law_law 637 = .ok (.iadd, 1) := by decide +kernel
theorem d_Law_law_638 : decode b_Law_law 638 = .ok (.iaload, 1) := by decide +kernel
theorem d_Law_law_639 : decode b_Law_law 639 = .ok (.invokevirtual 86, 3) := by decide +kernel
theorem d_Law_law_642 : decode b_Law_law 642 = .ok (.aload_n 2, 1) := by decide +kernel
theorem d_Law_law_643 : decode b_Law_law 643 = .ok (.aload_n 0, 1) := by decide +kernel
theorem d_Law_law_644 : decode b_Law_law 644 = .ok (.iload 4, 2) := by decide +kernel
theorem d_Law_law_646 : decode b_Law_law 646 = .ok (.iconst 1, 1) := by decide +kernel
theorem d_Law_law_647 : decode b_Law_law 647 = .ok (.iadd, 1) := by decide +kernel
theorem d_Law_law_648 : decode b_Law_law 648 = .ok (.iaload, 1) := by decide +kernel
theorem d_Law_law_649 : decode b_Law_law 649 = .ok (.aload_n 0, 1) := by decide +kernel
theorem d_Law_law_650 : decode b_Law_law 650 = .ok (.iload 4, 2) := by decide +kernel
theorem d_Law_law_652 : decode b_Law_law 652 = .ok (.iconst 2, 1) := by decide +kernel
theorem d_Law_law_653 : decode b_Law_law 653 = .ok (.iadd, 1) := by decide +kernel
theorem d_Law_law_654 : decode b_Law_law 654 = .ok (.iaload, 1) := by decide +kernel
theorem d_Law_law_655 : decode b_Law_law 655 = .ok (.invokevirtual 89, 3) := by decide +kernel
theorem d_Law_law_658 : decode b_Law_law 658 = .ok (.if_icmp .eq 104, 3) := by decide +kernel
theorem d_Law_law_661 : decode b_Law_law 661 = .ok (.iconst 0, 1) := by decide +kernel
theorem d_Law_law_662 : decode b_Law_law 662 = .ok (.ireturn, 1) := by decide +kernel
theorem d_Law_law_663 : decode b_Law_law 663 = .ok (.aload_n 1, 1) := by decide +kernel
theorem d_Law_law_664 : decode b_Law_law 664 = .ok (.aload_n 0, 1) := by decide +kernel
theorem d_Law_law_665 : decode b_Law_law 665 = .ok (.iload 4, 2) := by decide +kernel
theorem d_Law_law_667 : decode b_Law_law 667 = .ok (.iconst 1, 1) := by decide +kernel
theorem d_Law_law_668 : decode b_Law_law 668 = .ok (.iadd, 1) := by decide +kernel
theorem d_Law_law_669 : decode b_Law_law 669 = .ok (.iaload, 1) := by decide +kernel
theorem d_Law_law_670 : decode b_Law_law 670 = .ok (.aload_n 0, 1) := by decide +kernel
theorem d_Law_law_671 : decode b_Law_law 671 = .ok (.iload 4, 2) := by decide +kernel
theorem d_Law_law_673 : decode b_Law_law 673 = .ok (.iconst 2, 1) := by decide +kernel
theorem d_Law_law_674 : decode b_Law_law 674 = .ok (.iadd, 1) := by decide +kernel
theorem d_Law_law_675 : decode b_Law_law 675 = .ok (.iaload, 1) := by decide +kernel
theorem d_Law_law_676 : decode b_Law_law 676 = .ok (.invokevirtual 90, 3) := by decide +kernel
theorem d_Law_law_679 : decode b_Law_law 679 = .ok (.aload_n 2, 1) := by decide +kernel
theorem d_Law_law_680 : decode b_Law_law 680 = .ok (.aload_n 0, 1) := by decide +kernel
theorem d_Law_law_681 : decode b_Law_law 681 = .ok (.iload 4, 2) := by decide +kernel
theorem d_Law_law_683 : decode b_Law_law 683 = .ok (.iconst 1, 1) := by decide +kernel
theorem d_Law_law_684 : decode b_Law_law 684 = .ok (.iadd, 1) := by decide +kernel
theorem d_Law_law_685 : decode b_Law_law 685 = .ok (.iaload, 1) := by decide +kernel
theorem d_Law_law_686 : decode b_Law_law 686 = .ok (.aload_n 0, 1) := by decide +kernel
theorem d_Law_law_687 : decode b_Law_law 687 = .ok (.iload 4, 2) := by decide +kernel
theorem d_Law_law_689 : decode b_Law_law 689 = .ok (.iconst 2, 1) := by decide +kernel
theorem d_Law_law_690 : decode b_Law_law 690 = .ok (.iadd, 1) := by decide +kernel
theorem d_Law_law_691 : decode b_Law_law 691 = .ok (.iaload, 1) := by decide +kernel
theorem d_Law_law_692 : decode b_Law_law 692 = .ok (.invokevirtual 93, 3) := by decide +kernel
theorem d_Law_law_695 : decode b_Law_law 695 = .ok (.if_icmp .eq 67, 3) := by decide +kernel
theorem d_Law_law_698 : decode b_Law_law 698 = .ok (.iconst 0, 1) := by decide +kernel
theorem d_Law_law_699 : decode b_Law_law 699 = .ok (.ireturn, 1) := by decide +kernel
theorem d_Law_law_700 : decode b_Law_law 700 = .ok (.aload_n 1, 1) := by decide +kernel
theorem d_Law_law_701 : decode b_Law_law 701 = .ok (.aload_n 0, 1) := by decide +kernel
theorem d_Law_law_702 : decode b_Law_law 702 = .ok (.iload 4, 2) := by decide +kernel
theorem d_Law_law_704 : decode b_Law_law 704 = .ok (.iconst 1, 1) := by decide +kernel
theorem d_Law_law_705 : decode b_Law_law 705 = .ok (.iadd, 1) := by decide +kernel
theorem d_Law_law_706 : decode b_Law_law 706 = .ok (.iaload, 1) := by decide +kernel
theorem d_Law_law_707 : decode b_Law_law 707 = .ok (.aload_n 0, 1) := by decide +kernel
theorem d_Law_law_708 : decode b_Law_law 708 = .ok (.iload 4, 2) := by decide +kernel
theorem d_Law_law_710 : decode b_Law_law 710 = .ok (.iconst 2, 1) := by decide +kernel
theorem d_Law_law_711 : decode b_Law_law 711 = .ok (.iadd, 1) := by decide +kernel
theorem d_Law_law_712 : decode b_Law_law 712 = .ok (.iaload, 1) := by decide +kernel
theorem d_Law_law_713 : decode b_Law_law 713 = .ok (.invokevirtual 94, 3) := by decide +kernel
theorem d_Law_law_716 : decode b_Law_law 716 = .ok (.aload_n 2, 1) := by decide +kernel
theorem d_Law_law_717 : decode b_Law_law 717 = .ok (.aload_n 0, 1) := by decide +kernel
theorem d_Law_law_718 : decode b_Law_law 718 = .ok (.iload 4, 2) := by decide +kernel
theorem d_Law_law_720 : decode b_Law_law 720 = .ok (.iconst 1, 1) := by decide +kernel
theorem d_Law_law_721 : decode b_Law_law 721 = .ok (.iadd, 1) := by decide +kernel
theorem d_Law_law_722 : decode b_Law_law 722 = .ok (.iaload, 1) := by decide +kernel
theorem d_Law_law_723 : decode b_Law_law 723 = .ok (.aload_n 0, 1) := by decide +kernel
theorem d_Law_law_724 : decode b_Law_law 724 = .ok (.iload 4, 2) := by decide +kernel
theorem d_Law_law_726 : decode b_Law_law 726 = .ok (.iconst 2, 1) := by decide +kernel
theorem d_Law_law_727 : decode b_Law_law 727 = .ok (.iadd, 1) := by decide +kernel
theorem d_Law_law_728 : decode b_Law_law 728 = .ok (.iaload, 1) := by decide +kernel
theorem d_Law_law_729 : decode b_Law_law 729 = .ok (.invokevirtual 97, 3) := by decide +kernel
theorem d_Law_law_732 : decode b_Law_law 732 = .ok (.if_icmp .eq 30, 3) := by decide +kernel
theorem d_Law_law_735 : decode b_Law_law 735 = .ok (.iconst 0, 1) := by decide +kernel
theorem d_Law_law_736 : decode b_Law_law 736 = .ok (.ireturn, 1) := by decide +kernel
theorem d_Law_law_737 : decode b_Law_law 737 = .ok (.aload_n 1, 1) := by decide +kernel
theorem d_Law_law_738 : decode b_Law_law 738 = .ok (.aload_n 0, 1) := by decide +kernel
theorem d_Law_law_739 : decode b_Law_law 739 = .ok (.iload 4, 2) := by decide +kernel
theorem d_Law_law_741 : decode b_Law_law 741 = .ok (.iconst 1, 1) := by decide +kernel
theorem d_Law_law_742 : decode b_Law_law 742 = .ok (.iadd, 1) := by decide +kernel
theorem d_Law_law_743 : decode b_Law_law 743 = .ok (.iaload, 1) := by decide +kernel
theorem d_Law_law_744 : decode b_Law_law 744 = .ok (.invokevirtual 98, 3) := by decide +kernel
theorem d_Law_law_747 : decode b_Law_law 747 = .ok (.aload_n 2, 1) := by decide +kernel
theorem d_Law_law_748 : decode b_Law_law 748 = .ok (.aload_n 0, 1) := by decide +kernel
theorem d_Law_law_749 : decode b_Law_law 749 = .ok (.iload 4, 2) := by decide +kernel
theorem d_Law_law_751 : decode b_Law_law 751 = .ok (.iconst 1, 1) := by decide +kernel
theorem d_Law_law_752 : decode b_Law_law 752 = .ok (.iadd, 1) := by decide +kernel
theorem d_Law_law_753 : decode b_Law_law 753 = .ok (.iaload, 1) := by decide +kernel
theorem d_Law_law_754 : decode b_Law_law 754 = .ok (.invokevirtual 101, 3) := by decide +kernel
theorem d_Law_law_757 : decode b_Law_law 757 = .ok (.if_icmp .eq 5, 3) := by decide +kernel
theorem d_Law_law_760 : decode b_Law_law 760 = .ok (.iconst 0, 1) := by decide +kernel
theorem d_Law_law_761 : decode b_Law_law 761 = .ok (.ireturn, 1) := by decide +kernel
theorem d_Law_law_762 : decode b_Law_law 762 = .ok (.iinc 4 4, 3) := by decide +kernel
theorem d_Law_law_765 : decode b_Law_law 765 = .ok (.goto (-742), 3) := by decide +kernel
theorem d_Law_law_768 : decode b_Law_law 768 = .ok (.iconst 1, 1) := by decide +kernel
theorem d_Law_law_769 : decode b_Law_law 769 = .ok (.ireturn, 1) := by decide +kernel
section LAWC
variable {p : Program} {l : Launch} {e : Env} {s : State} {m : MethodId} {below : List Frame} {meth : Method} {c : Code} {b0 L : Nat} {xs : Nat → Int32} {dC : Nat → ClassId} {dI : Nat → Nat → Nat} {a : Nat → Nat} {cs : Nat → ClassId} {b : Nat → Nat} {ds : Nat → ClassId} {o : Nat} {cO : ClassId} {σ : SB} {τ : SM} {f : Nat → Int64} {H : Heap} {locs : List Loc} {cells slots : Nat} {Q : State → Prop} {ls : Array Slot} {x4 : Int32} {Rel : SB → SM → Prop}
set_option maxHeartbeats 4000000 in
set_option maxRecDepth 100000 in
theorem law_block (hx : p.tables.exec = Jvm.exec) (hb : c.code = code) (hml : c.maxLocals = 7) (hown : s.vm.findClass "BlockRulerLaw" = some m.cls) (hg : ∀ w ∈ G_, w.before #[Value.ref b0] s = true) (hX : va_X b0 L xs s s.heap) (hbl : b0 < s.heap.size) (C1 : LCx l s dC dI a cs b ds o cO) (S0 : LSt s dC dI a cs b ds o cO σ τ f H locs) (h1 : vp_in (x4 + 1) L) (h2 : vp_in (x4 + 2) L) (h3 : vp_in (x4 + 3) L) (hl : lv_has ls 7 [(0, .ref b0), (1, .ref (a 0)), (2, .ref (b 0)), (3, .ref o), (4, .int x4)]) (hf : cells + 1 ≤ room_1.cells ∧ slots + 6 ≤ room_1.slots) (hp : ∃ (r : Int32) (τ' : SM), f_Model_block τ = some (r, τ') ∧ ((∃ σ' : SB, f_BlockRuler_block σ = some (Sum.inr r, σ') ∧ sM_thrown τ' = 0 ∧ Rel σ' τ') ∨ (∃ σ' : SB, f_BlockRuler_block σ = some (Sum.inl 0, σ') ∧ sM_thrown τ' = 1 ∧ Rel σ' τ'))) (kk : ∀ (σ' : SB) (τ' : SM) (f' : Nat → Int64) (H : Heap) (locs : List Loc) (ls : Array Slot), Rel σ' τ' → LSt s dC dI a cs b ds o cO σ' τ' f' H locs → lv_has ls 7 [(0, .ref b0), (1, .ref (a 0)), (2, .ref (b 0)), (3, .ref o), (4, .int x4)] → W p l e room_1 s m #[Value.ref b0] below meth c H locs (cells + 1) (slots + 6) Q (F0 m 762 ls [])) : W p l e room_1 s m #[Value.ref b0] below meth c H locs cells slots Q (F0 m 112 ls []) := by
  obtain ⟨r, τ', e2, hp⟩ := hp
  refine lv_aload_n hx hb d_Law_law_112 rfl (lv_at hl 1 rfl) ?_
  refine lv_aload_n hx hb d_Law_law_113 rfl (lv_at hl 3 rfl) ?_
  rcases hp with ⟨σ', e1, ht, hR⟩ | ⟨σ', e1, ht, hR⟩
  · refine lw_cH (n := 2) (As := [.ref (a 0), .ref o]) (rest := []) (rv := 0) (r := (σ', (vp_updL f 0 (Int32.toInt64 r)))) hx hb hml hown hg C1 S0 (cH_block_ret l C1.1 dC dI a cs s.heap.size H.size S0.2.2.2.2.2.1 C1.2.2.2.2.2.2.2.2.2.2.1 o cO f C1.2.2.2.2.2.2.2.2.1 σ  (r, σ') e1) rfl wl303 rfl rfl wl304 wl305 wl306 (by decide +kernel) (by decide +kernel) ⟨Nat.le_of_ble_eq_true rfl, Nat.le_of_ble_eq_true rfl⟩ rfl hl.1 rfl (Nat.le_of_ble_eq_true rfl) d_Law_law_114 ⟨Nat.le_of_succ_le hf.1, Nat.le_trans (Nat.le_add_right _ _) hf.2⟩ (fun H locs S0 => ?_)
    refine W.widen (k := cells + 1) (n := slots + 6) (by omega) (by omega) ?_
    refine lv_istore (lv' := [(5, .int 0), (0, .ref b0), (1, .ref (a 0)), (2, .ref (b 0)), (3, .ref o), (4, .int x4)]) hx hb d_Law_law_117 hl (by decide) rfl (fun ls hl => ?_)
    refine lv_aload_n hx hb d_Law_law_119 rfl (lv_at hl 3 rfl) ?_
    refine lw_cM (As := []) (rest := []) (r := (r, τ')) hx hb hml hown hg C1 S0 (c_Model_block l dC dI b ds H.size τ  (r, τ') e2) (cwV 0 hg (gdV wl307 wl308 wl309 wd215 wl310) rfl rfl rfl (by decide +kernel) ⟨Nat.le_of_ble_eq_true rfl, Nat.le_of_ble_eq_true rfl⟩) rfl hl.1 rfl (Nat.le_of_ble_eq_true rfl) d_Law_law_120 hf (fun H locs S0 => ?_)
    refine lv_istore (lv' := [(6, .int r), (5, .int 0), (0, .ref b0), (1, .ref (a 0)), (2, .ref (b 0)), (3, .ref o), (4, .int x4)]) hx hb d_Law_law_123 hl (by decide) rfl (fun ls hl => ?_)
    refine lv_aload_n hx hb d_Law_law_125 rfl (lv_at hl 4 rfl) ?_
    refine lw_rM (As := []) (rest := []) hx hb hml hown hg C1 S0 (c_Model_thrown l dC dI b ds τ' 0 (by unfold f_Model_thrown; exact ht)) (cwV 0 hg (gdV wl311 wl312 wl313 wd215 wl314) rfl rfl rfl (by decide +kernel) ⟨Nat.le_of_ble_eq_true rfl, Nat.le_of_ble_eq_true rfl⟩) rfl hl.1 rfl (Nat.le_of_ble_eq_true rfl) d_Law_law_126 hf ?_
    refine lv_iload hx hb d_Law_law_129 (lv_at hl 1 rfl) ?_
    refine lv_icmp_eq (tgt := 136) hx hb d_Law_law_131 (by decide) (fun _ => ?_) (fun cc => absurd rfl cc)
    refine lv_iload hx hb d_Law_law_136 (lv_at hl 1 rfl) ?_
    refine lv_if_ne (tgt := 153) hx hb d_Law_law_138 (by decide) (fun cc => absurd rfl cc) (fun _ => ?_)
    refine lv_aload_n hx hb d_Law_law_141 rfl (lv_at hl 5 rfl) ?_
    refine lv_iconst (v := 0) hx hb d_Law_law_142 (by decide) ?_
    refine va_lald (f := (vp_updL f 0 (Int32.toInt64 r))) (n := 1) hx hb C1.2.2.2.1 S0.2.2.2.2.1 0 0 rfl rfl vin01 d_Law_law_143 ?_
    refine lv_iload hx hb d_Law_law_144 (lv_at hl 0 rfl) ?_
    refine lv_i2l (v := Int32.toInt64 r) hx hb d_Law_law_146 rfl ?_
    refine W.lcmp hx hb d_Law_law_147 ?_
    refine lv_if_eq (tgt := 153) hx hb d_Law_law_148 (by decide) (fun _ => ?_) (fun cc => absurd (lg_same f r) cc)
    refine lv_goto (tgt := 762) hx hb d_Law_law_153 (by decide) ?_
    exact kk σ' τ' (vp_updL f 0 (Int32.toInt64 r)) H locs ls hR S0 (lv_sub hl [2, 3, 4, 5, 6] rfl)
  · refine lw_cH (n := 2) (As := [.ref (a 0), .ref o]) (rest := []) (rv := 1) (r := (σ', f)) hx hb hml hown hg C1 S0 (cH_block_ISE l C1.1 dC dI a cs s.heap.size H.size S0.2.2.2.2.2.1 C1.2.2.2.2.2.2.2.2.2.2.1 o cO f C1.2.2.2.2.2.2.2.2.1 σ  σ' e1) rfl wl303 rfl rfl wl304 wl305 wl306 (by decide +kernel) (by decide +kernel) ⟨Nat.le_of_ble_eq_true rfl, Nat.le_of_ble_eq_true rfl⟩ rfl hl.1 rfl (Nat.le_of_ble_eq_true rfl) d_Law_law_114 hf (fun H locs S0 => ?_)
    refine W.widen (k := cells + 1) (n := slots + 6) (by omega) (by omega) ?_
    refine lv_istore (lv' := [(5, .int 1), (0, .ref b0), (1, .ref (a 0)), (2, .ref (b 0)), (3, .ref o), (4, .int x4)]) hx hb d_Law_law_117 hl (by decide) rfl (fun ls hl => ?_)
    refine lv_aload_n hx hb d_Law_law_119 rfl (lv_at hl 3 rfl) ?_
    refine lw_cM (As := []) (rest := []) (r := (r, τ')) hx hb hml hown hg C1 S0 (c_Model_block l dC dI b ds H.size τ  (r, τ') e2) (cwV 0 hg (gdV wl307 wl308 wl309 wd215 wl310) rfl rfl rfl (by decide +kernel) ⟨Nat.le_of_ble_eq_true rfl, Nat.le_of_ble_eq_true rfl⟩) rfl hl.1 rfl (Nat.le_of_ble_eq_true rfl) d_Law_law_120 hf (fun H locs S0 => ?_)
    refine lv_istore (lv' := [(6, .int r), (5, .int 1), (0, .ref b0), (1, .ref (a 0)), (2, .ref (b 0)), (3, .ref o), (4, .int x4)]) hx hb d_Law_law_123 hl (by decide) rfl (fun ls hl => ?_)
    refine lv_aload_n hx hb d_Law_law_125 rfl (lv_at hl 4 rfl) ?_
    refine lw_rM (As := []) (rest := []) hx hb hml hown hg C1 S0 (c_Model_thrown l dC dI b ds τ' 1 (by unfold f_Model_thrown; exact ht)) (cwV 0 hg (gdV wl311 wl312 wl313 wd215 wl314) rfl rfl rfl (by decide +kernel) ⟨Nat.le_of_ble_eq_true rfl, Nat.le_of_ble_eq_true rfl⟩) rfl hl.1 rfl (Nat.le_of_ble_eq_true rfl) d_Law_law_126 hf ?_
    refine lv_iload hx hb d_Law_law_129 (lv_at hl 1 rfl) ?_
    refine lv_icmp_eq (tgt := 136) hx hb d_Law_law_131 (by decide) (fun _ => ?_) (fun cc => absurd rfl cc)
    refine lv_iload hx hb d_Law_law_136 (lv_at hl 1 rfl) ?_
    refine lv_if_ne (tgt := 153) hx hb d_Law_law_138 (by decide) (fun _ => ?_) (fun cc => absurd cc (by decide))
    refine lv_goto (tgt := 762) hx hb d_Law_law_153 (by decide) ?_
    exact kk σ' τ' f H locs ls hR S0 (lv_sub hl [2, 3, 4, 5, 6] rfl)
set_option maxHeartbeats 4000000 in
set_option maxRecDepth 100000 in
theorem law_way (hx : p.tables.exec = Jvm.exec) (hb : c.code = code) (hml : c.maxLocals = 7) (hown : s.vm.findClass "BlockRulerLaw" = some m.cls) (hg : ∀ w ∈ G_, w.before #[Value.ref b0] s = true) (hX : va_X b0 L xs s s.heap) (hbl : b0 < s.heap.size) (C1 : LCx l s dC dI a cs b ds o cO) (S0 : LSt s dC dI a cs b ds o cO σ τ f H locs) (h1 : vp_in (x4 + 1) L) (h2 : vp_in (x4 + 2) L) (h3 : vp_in (x4 + 3) L) (hl : lv_has ls 7 [(0, .ref b0), (1, .ref (a 0)), (2, .ref (b 0)), (3, .ref o), (4, .int x4)]) (hf : cells + 1 ≤ room_1.cells ∧ slots + 6 ≤ room_1.slots) (hp : ∃ (r : Int32) (τ' : SM), f_Model_way τ (xs (Int32.toNatClampNeg (x4 + 1))) (xs (Int32.toNatClampNeg (x4 + 2))) = some (r, τ') ∧ ((∃ σ' : SB, f_BlockRuler_way σ (xs (Int32.toNatClampNeg (x4 + 1))) (xs (Int32.toNatClampNeg (x4 + 2))) = some (Sum.inr r, σ') ∧ sM_thrown τ' = 0 ∧ Rel σ' τ') ∨ (∃ σ' : SB, f_BlockRuler_way σ (xs (Int32.toNatClampNeg (x4 + 1))) (xs (Int32.toNatClampNeg (x4 + 2))) = some (Sum.inl 1, σ') ∧ sM_thrown τ' = 1 ∧ Rel σ' τ') ∨ (∃ σ' : SB, f_BlockRuler_way σ (xs (Int32.toNatClampNeg (x4 + 1))) (xs (Int32.toNatClampNeg (x4 + 2))) = some (Sum.inl 0, σ') ∧ sM_thrown τ' = 2 ∧ Rel σ' τ'))) (kk : ∀ (σ' : SB) (τ' : SM) (f' : Nat → Int64) (H : Heap) (locs : List Loc) (ls : Array Slot), Rel σ' τ' → LSt s dC dI a cs b ds o cO σ' τ' f' H locs → lv_has ls 7 [(0, .ref b0), (1, .ref (a 0)), (2, .ref (b 0)), (3, .ref o), (4, .int x4)] → W p l e room_1 s m #[Value.ref b0] below meth c H locs (cells + 1) (slots + 6) Q (F0 m 762 ls [])) : W p l e room_1 s m #[Value.ref b0] below meth c H locs cells slots Q (F0 m 156 ls []) := by
  obtain ⟨r, τ', e2, hp⟩ := hp
  refine lv_aload_n hx hb d_Law_law_156 rfl (lv_at hl 1 rfl) ?_
  refine lv_aload_n hx hb d_Law_law_157 rfl (lv_at hl 0 rfl) ?_
  refine lv_iload hx hb d_Law_law_158 (lv_at hl 4 rfl) ?_
  refine lv_iconst (v := 1) hx hb d_Law_law_160 (by decide) ?_
  refine lv_iadd hx hb d_Law_law_161 ?_
  refine va_sld hx hb hX hbl (A := fun q => s.heap.size ≤ q) (Nat.not_le.mpr hbl) S0.2.2.2.2.2 h1 d_Law_law_162 ?_
  refine lv_aload_n hx hb d_Law_law_163 rfl (lv_at hl 0 rfl) ?_
  refine lv_iload hx hb d_Law_law_164 (lv_at hl 4 rfl) ?_
  refine lv_iconst (v := 2) hx hb d_Law_law_166 (by decide) ?_
  refine lv_iadd hx hb d_Law_law_167 ?_
  refine va_sld hx hb hX hbl (A := fun q => s.heap.size ≤ q) (Nat.not_le.mpr hbl) S0.2.2.2.2.2 h2 d_Law_law_168 ?_
  refine lv_aload_n hx hb d_Law_law_169 rfl (lv_at hl 3 rfl) ?_
  rcases hp with ⟨σ', e1, ht, hR⟩ | ⟨σ', e1, ht, hR⟩ | ⟨σ', e1, ht, hR⟩
  · refine lw_cH (n := 4) (As := [.ref (a 0), .int (xs (Int32.toNatClampNeg (x4 + 1))), .int (xs (Int32.toNatClampNeg (x4 + 2))), .ref o]) (rest := []) (rv := 0) (r := (σ', (vp_updL f 0 (Int32.toInt64 r)))) hx hb hml hown hg C1 S0 (cH_way_ret l C1.1 dC dI a cs s.heap.size H.size S0.2.2.2.2.2.1 C1.2.2.2.2.2.2.2.2.2.2.1 o cO f C1.2.2.2.2.2.2.2.2.1 σ (xs (Int32.toNatClampNeg (x4 + 1))) (xs (Int32.toNatClampNeg (x4 + 2))) (r, σ') e1) rfl wl315 rfl rfl wl316 wl317 wl306 (by decide +kernel) (by decide +kernel) ⟨Nat.le_of_ble_eq_true rfl, Nat.le_of_ble_eq_true rfl⟩ rfl hl.1 rfl (Nat.le_of_ble_eq_true rfl) d_Law_law_170 ⟨Nat.le_of_succ_le hf.1, Nat.le_trans (Nat.le_add_right _ _) hf.2⟩ (fun H locs S0 => ?_)
    refine W.widen (k := cells + 1) (n := slots + 6) (by omega) (by omega) ?_
    refine lv_istore (lv' := [(5, .int 0), (0, .ref b0), (1, .ref (a 0)), (2, .ref (b 0)), (3, .ref o), (4, .int x4)]) hx hb d_Law_law_173 hl (by decide) rfl (fun ls hl => ?_)
    refine lv_aload_n hx hb d_Law_law_175 rfl (lv_at hl 3 rfl) ?_
    refine lv_aload_n hx hb d_Law_law_176 rfl (lv_at hl 1 rfl) ?_
    refine lv_iload hx hb d_Law_law_177 (lv_at hl 5 rfl) ?_
    refine lv_iconst (v := 1) hx hb d_Law_law_179 (by decide) ?_
    refine lv_iadd hx hb d_Law_law_180 ?_
    refine va_sld hx hb hX hbl (A := fun q => s.heap.size ≤ q) (Nat.not_le.mpr hbl) S0.2.2.2.2.2 h1 d_Law_law_181 ?_
    refine lv_aload_n hx hb d_Law_law_182 rfl (lv_at hl 1 rfl) ?_
    refine lv_iload hx hb d_Law_law_183 (lv_at hl 5 rfl) ?_
    refine lv_iconst (v := 2) hx hb d_Law_law_185 (by decide) ?_
    refine lv_iadd hx hb d_Law_law_186 ?_
    refine va_sld hx hb hX hbl (A := fun q => s.heap.size ≤ q) (Nat.not_le.mpr hbl) S0.2.2.2.2.2 h2 d_Law_law_187 ?_
    refine lw_cM (As := [.int (xs (Int32.toNatClampNeg (x4 + 1))), .int (xs (Int32.toNatClampNeg (x4 + 2)))]) (rest := []) (r := (r, τ')) hx hb hml hown hg C1 S0 (c_Model_way l dC dI b ds H.size τ (xs (Int32.toNatClampNeg (x4 + 1))) (xs (Int32.toNatClampNeg (x4 + 2))) (r, τ') e2) (cwV 2 hg (gdV wl318 wl319 wl320 wd215 wl321) rfl rfl rfl (by decide +kernel) ⟨Nat.le_of_ble_eq_true rfl, Nat.le_of_ble_eq_true rfl⟩) rfl hl.1 rfl (Nat.le_of_ble_eq_true rfl) d_Law_law_188 hf (fun H locs S0 => ?_)
    refine lv_istore (lv' := [(6, .int r), (5, .int 0), (0, .ref b0), (1, .ref (a 0)), (2, .ref (b 0)), (3, .ref o), (4, .int x4)]) hx hb d_Law_law_191 hl (by decide) rfl (fun ls hl => ?_)
    refine lv_aload_n hx hb d_Law_law_193 rfl (lv_at hl 4 rfl) ?_
    refine lw_rM (As := []) (rest := []) hx hb hml hown hg C1 S0 (c_Model_thrown l dC dI b ds τ' 0 (by unfold f_Model_thrown; exact ht)) (cwV 0 hg (gdV wl311 wl312 wl313 wd215 wl314) rfl rfl rfl (by decide +kernel) ⟨Nat.le_of_ble_eq_true rfl, Nat.le_of_ble_eq_true rfl⟩) rfl hl.1 rfl (Nat.le_of_ble_eq_true rfl) d_Law_law_194 hf ?_
    refine lv_iload hx hb d_Law_law_197 (lv_at hl 1 rfl) ?_
    refine lv_icmp_eq (tgt := 204) hx hb d_Law_law_199 (by decide) (fun _ => ?_) (fun cc => absurd rfl cc)
    refine lv_iload hx hb d_Law_law_204 (lv_at hl 1 rfl) ?_
    refine lv_if_ne (tgt := 221) hx hb d_Law_law_206 (by decide) (fun cc => absurd rfl cc) (fun _ => ?_)
    refine lv_aload_n hx hb d_Law_law_209 rfl (lv_at hl 5 rfl) ?_
    refine lv_iconst (v := 0) hx hb d_Law_law_210 (by decide) ?_
    refine va_lald (f := (vp_updL f 0 (Int32.toInt64 r))) (n := 1) hx hb C1.2.2.2.1 S0.2.2.2.2.1 0 0 rfl rfl vin01 d_Law_law_211 ?_
    refine lv_iload hx hb d_Law_law_212 (lv_at hl 0 rfl) ?_
    refine lv_i2l (v := Int32.toInt64 r) hx hb d_Law_law_214 rfl ?_
    refine W.lcmp hx hb d_Law_law_215 ?_
    refine lv_if_eq (tgt := 221) hx hb d_Law_law_216 (by decide) (fun _ => ?_) (fun cc => absurd (lg_same f r) cc)
    refine lv_goto (tgt := 762) hx hb d_Law_law_221 (by decide) ?_
    exact kk σ' τ' (vp_updL f 0 (Int32.toInt64 r)) H locs ls hR S0 (lv_sub hl [2, 3, 4, 5, 6] rfl)
  · refine lw_cH (n := 4) (As := [.ref (a 0), .int (xs (Int32.toNatClampNeg (x4 + 1))), .int (xs (Int32.toNatClampNeg (x4 + 2))), .ref o]) (rest := []) (rv := 1) (r := (σ', f)) hx hb hml hown hg C1 S0 (cH_way_IAE l C1.1 dC dI a cs s.heap.size H.size S0.2.2.2.2.2.1 C1.2.2.2.2.2.2.2.2.2.2.1 o cO f C1.2.2.2.2.2.2.2.2.1 σ (xs (Int32.toNatClampNeg (x4 + 1))) (xs (Int32.toNatClampNeg (x4 + 2))) σ' e1) rfl wl315 rfl rfl wl316 wl317 wl306 (by decide +kernel) (by decide +kernel) ⟨Nat.le_of_ble_eq_true rfl, Nat.le_of_ble_eq_true rfl⟩ rfl hl.1 rfl (Nat.le_of_ble_eq_true rfl) d_Law_law_170 hf (fun H locs S0 => ?_)
    refine W.widen (k := cells + 1) (n := slots + 6) (by omega) (by omega) ?_
    refine lv_istore (lv' := [(5, .int 1), (0, .ref b0), (1, .ref (a 0)), (2, .ref (b 0)), (3, .ref o), (4, .int x4)]) hx hb d_Law_law_173 hl (by decide) rfl (fun ls hl => ?_)
    refine lv_aload_n hx hb d_Law_law_175 rfl (lv_at hl 3 rfl) ?_
    refine lv_aload_n hx hb d_Law_law_176 rfl (lv_at hl 1 rfl) ?_
    refine lv_iload hx hb d_Law_law_177 (lv_at hl 5 rfl) ?_
    refine lv_iconst (v := 1) hx hb d_Law_law_179 (by decide) ?_
    refine lv_iadd hx hb d_Law_law_180 ?_
    refine va_sld hx hb hX hbl (A := fun q => s.heap.size ≤ q) (Nat.not_le.mpr hbl) S0.2.2.2.2.2 h1 d_Law_law_181 ?_
    refine lv_aload_n hx hb d_Law_law_182 rfl (lv_at hl 1 rfl) ?_
    refine lv_iload hx hb d_Law_law_183 (lv_at hl 5 rfl) ?_
    refine lv_iconst (v := 2) hx hb d_Law_law_185 (by decide) ?_
    refine lv_iadd hx hb d_Law_law_186 ?_
    refine va_sld hx hb hX hbl (A := fun q => s.heap.size ≤ q) (Nat.not_le.mpr hbl) S0.2.2.2.2.2 h2 d_Law_law_187 ?_
    refine lw_cM (As := [.int (xs (Int32.toNatClampNeg (x4 + 1))), .int (xs (Int32.toNatClampNeg (x4 + 2)))]) (rest := []) (r := (r, τ')) hx hb hml hown hg C1 S0 (c_Model_way l dC dI b ds H.size τ (xs (Int32.toNatClampNeg (x4 + 1))) (xs (Int32.toNatClampNeg (x4 + 2))) (r, τ') e2) (cwV 2 hg (gdV wl318 wl319 wl320 wd215 wl321) rfl rfl rfl (by decide +kernel) ⟨Nat.le_of_ble_eq_true rfl, Nat.le_of_ble_eq_true rfl⟩) rfl hl.1 rfl (Nat.le_of_ble_eq_true rfl) d_Law_law_188 hf (fun H locs S0 => ?_)
    refine lv_istore (lv' := [(6, .int r), (5, .int 1), (0, .ref b0), (1, .ref (a 0)), (2, .ref (b 0)), (3, .ref o), (4, .int x4)]) hx hb d_Law_law_191 hl (by decide) rfl (fun ls hl => ?_)
    refine lv_aload_n hx hb d_Law_law_193 rfl (lv_at hl 4 rfl) ?_
    refine lw_rM (As := []) (rest := []) hx hb hml hown hg C1 S0 (c_Model_thrown l dC dI b ds τ' 1 (by unfold f_Model_thrown; exact ht)) (cwV 0 hg (gdV wl311 wl312 wl313 wd215 wl314) rfl rfl rfl (by decide +kernel) ⟨Nat.le_of_ble_eq_true rfl, Nat.le_of_ble_eq_true rfl⟩) rfl hl.1 rfl (Nat.le_of_ble_eq_true rfl) d_Law_law_194 hf ?_
    refine lv_iload hx hb d_Law_law_197 (lv_at hl 1 rfl) ?_
    refine lv_icmp_eq (tgt := 204) hx hb d_Law_law_199 (by decide) (fun _ => ?_) (fun cc => absurd rfl cc)
    refine lv_iload hx hb d_Law_law_204 (lv_at hl 1 rfl) ?_
    refine lv_if_ne (tgt := 221) hx hb d_Law_law_206 (by decide) (fun _ => ?_) (fun cc => absurd cc (by decide))
    refine lv_goto (tgt := 762) hx hb d_Law_law_221 (by decide) ?_
    exact kk σ' τ' f H locs ls hR S0 (lv_sub hl [2, 3, 4, 5, 6] rfl)
  · refine lw_cH (n := 4) (As := [.ref (a 0), .int (xs (Int32.toNatClampNeg (x4 + 1))), .int (xs (Int32.toNatClampNeg (x4 + 2))), .ref o]) (rest := []) (rv := 2) (r := (σ', f)) hx hb hml hown hg C1 S0 (cH_way_ISE l C1.1 dC dI a cs s.heap.size H.size S0.2.2.2.2.2.1 C1.2.2.2.2.2.2.2.2.2.2.1 o cO f C1.2.2.2.2.2.2.2.2.1 σ (xs (Int32.toNatClampNeg (x4 + 1))) (xs (Int32.toNatClampNeg (x4 + 2))) σ' e1) rfl wl315 rfl rfl wl316 wl317 wl306 (by decide +kernel) (by decide +kernel) ⟨Nat.le_of_ble_eq_true rfl, Nat.le_of_ble_eq_true rfl⟩ rfl hl.1 rfl (Nat.le_of_ble_eq_true rfl) d_Law_law_170 hf (fun H locs S0 => ?_)
    refine W.widen (k := cells + 1) (n := slots + 6) (by omega) (by omega) ?_
    refine lv_istore (lv' := [(5, .int 2), (0, .ref b0), (1, .ref (a 0)), (2, .ref (b 0)), (3, .ref o), (4, .int x4)]) hx hb d_Law_law_173 hl (by decide) rfl (fun ls hl => ?_)
    refine lv_aload_n hx hb d_Law_law_175 rfl (lv_at hl 3 rfl) ?_
    refine lv_aload_n hx hb d_Law_law_176 rfl (lv_at hl 1 rfl) ?_
    refine lv_iload hx hb d_Law_law_177 (lv_at hl 5 rfl) ?_
    refine lv_iconst (v := 1) hx hb d_Law_law_179 (by decide) ?_
    refine lv_iadd hx hb d_Law_law_180 ?_
    refine va_sld hx hb hX hbl (A := fun q => s.heap.size ≤ q) (Nat.not_le.mpr hbl) S0.2.2.2.2.2 h1 d_Law_law_181 ?_
    refine lv_aload_n hx hb d_Law_law_182 rfl (lv_at hl 1 rfl) ?_
    refine lv_iload hx hb d_Law_law_183 (lv_at hl 5 rfl) ?_
    refine lv_iconst (v := 2) hx hb d_Law_law_185 (by decide) ?_
    refine lv_iadd hx hb d_Law_law_186 ?_
    refine va_sld hx hb hX hbl (A := fun q => s.heap.size ≤ q) (Nat.not_le.mpr hbl) S0.2.2.2.2.2 h2 d_Law_law_187 ?_
    refine lw_cM (As := [.int (xs (Int32.toNatClampNeg (x4 + 1))), .int (xs (Int32.toNatClampNeg (x4 + 2)))]) (rest := []) (r := (r, τ')) hx hb hml hown hg C1 S0 (c_Model_way l dC dI b ds H.size τ (xs (Int32.toNatClampNeg (x4 + 1))) (xs (Int32.toNatClampNeg (x4 + 2))) (r, τ') e2) (cwV 2 hg (gdV wl318 wl319 wl320 wd215 wl321) rfl rfl rfl (by decide +kernel) ⟨Nat.le_of_ble_eq_true rfl, Nat.le_of_ble_eq_true rfl⟩) rfl hl.1 rfl (Nat.le_of_ble_eq_true rfl) d_Law_law_188 hf (fun H locs S0 => ?_)
    refine lv_istore (lv' := [(6, .int r), (5, .int 2), (0, .ref b0), (1, .ref (a 0)), (2, .ref (b 0)), (3, .ref o), (4, .int x4)]) hx hb d_Law_law_191 hl (by decide) rfl (fun ls hl => ?_)
    refine lv_aload_n hx hb d_Law_law_193 rfl (lv_at hl 4 rfl) ?_
    refine lw_rM (As := []) (rest := []) hx hb hml hown hg C1 S0 (c_Model_thrown l dC dI b ds τ' 2 (by unfold f_Model_thrown; exact ht)) (cwV 0 hg (gdV wl311 wl312 wl313 wd215 wl314) rfl rfl rfl (by decide +kernel) ⟨Nat.le_of_ble_eq_true rfl, Nat.le_of_ble_eq_true rfl⟩) rfl hl.1 rfl (Nat.le_of_ble_eq_true rfl) d_Law_law_194 hf ?_
    refine lv_iload hx hb d_Law_law_197 (lv_at hl 1 rfl) ?_
    refine lv_icmp_eq (tgt := 204) hx hb d_Law_law_199 (by decide) (fun _ => ?_) (fun cc => absurd rfl cc)
    refine lv_iload hx hb d_Law_law_204 (lv_at hl 1 rfl) ?_
    refine lv_if_ne (tgt := 221) hx hb d_Law_law_206 (by decide) (fun _ => ?_) (fun cc => absurd cc (by decide))
    refine lv_goto (tgt := 762) hx hb d_Law_law_221 (by decide) ?_
    exact kk σ' τ' f H locs ls hR S0 (lv_sub hl [2, 3, 4, 5, 6] rfl)
set_option maxHeartbeats 4000000 in
set_option maxRecDepth 100000 in
theorem law_cut (hx : p.tables.exec = Jvm.exec) (hb : c.code = code) (hml : c.maxLocals = 7) (hown : s.vm.findClass "BlockRulerLaw" = some m.cls) (hg : ∀ w ∈ G_, w.before #[Value.ref b0] s = true) (hX : va_X b0 L xs s s.heap) (hbl : b0 < s.heap.size) (C1 : LCx l s dC dI a cs b ds o cO) (S0 : LSt s dC dI a cs b ds o cO σ τ f H locs) (h1 : vp_in (x4 + 1) L) (h2 : vp_in (x4 + 2) L) (h3 : vp_in (x4 + 3) L) (hl : lv_has ls 7 [(0, .ref b0), (1, .ref (a 0)), (2, .ref (b 0)), (3, .ref o), (4, .int x4)]) (hf : cells + 1 ≤ room_1.cells ∧ slots + 6 ≤ room_1.slots) (hp : ∃ (r : Int32) (τ' : SM), f_Model_cut τ (xs (Int32.toNatClampNeg (x4 + 1))) (xs (Int32.toNatClampNeg (x4 + 2))) = some (r, τ') ∧ ((∃ σ' : SB, f_BlockRuler_cut σ (xs (Int32.toNatClampNeg (x4 + 1))) (xs (Int32.toNatClampNeg (x4 + 2))) = some (Sum.inr r, σ') ∧ sM_thrown τ' = 0 ∧ Rel σ' τ') ∨ (∃ σ' : SB, f_BlockRuler_cut σ (xs (Int32.toNatClampNeg (x4 + 1))) (xs (Int32.toNatClampNeg (x4 + 2))) = some (Sum.inl 2, σ') ∧ sM_thrown τ' = 1 ∧ Rel σ' τ'))) (kk : ∀ (σ' : SB) (τ' : SM) (f' : Nat → Int64) (H : Heap) (locs : List Loc) (ls : Array Slot), Rel σ' τ' → LSt s dC dI a cs b ds o cO σ' τ' f' H locs → lv_has ls 7 [(0, .ref b0), (1, .ref (a 0)), (2, .ref (b 0)), (3, .ref o), (4, .int x4)] → W p l e room_1 s m #[Value.ref b0] below meth c H locs (cells + 1) (slots + 6) Q (F0 m 762 ls [])) : W p l e room_1 s m #[Value.ref b0] below meth c H locs cells slots Q (F0 m 224 ls []) := by
  obtain ⟨r, τ', e2, hp⟩ := hp
  refine lv_aload_n hx hb d_Law_law_224 rfl (lv_at hl 1 rfl) ?_
  refine lv_aload_n hx hb d_Law_law_225 rfl (lv_at hl 0 rfl) ?_
  refine lv_iload hx hb d_Law_law_226 (lv_at hl 4 rfl) ?_
  refine lv_iconst (v := 1) hx hb d_Law_law_228 (by decide) ?_
  refine lv_iadd hx hb d_Law_law_229 ?_
  refine va_sld hx hb hX hbl (A := fun q => s.heap.size ≤ q) (Nat.not_le.mpr hbl) S0.2.2.2.2.2 h1 d_Law_law_230 ?_
  refine lv_aload_n hx hb d_Law_law_231 rfl (lv_at hl 0 rfl) ?_
  refine lv_iload hx hb d_Law_law_232 (lv_at hl 4 rfl) ?_
  refine lv_iconst (v := 2) hx hb d_Law_law_234 (by decide) ?_
  refine lv_iadd hx hb d_Law_law_235 ?_
  refine va_sld hx hb hX hbl (A := fun q => s.heap.size ≤ q) (Nat.not_le.mpr hbl) S0.2.2.2.2.2 h2 d_Law_law_236 ?_
  refine lv_aload_n hx hb d_Law_law_237 rfl (lv_at hl 3 rfl) ?_
  rcases hp with ⟨σ', e1, ht, hR⟩ | ⟨σ', e1, ht, hR⟩
  · refine lw_cH (n := 4) (As := [.ref (a 0), .int (xs (Int32.toNatClampNeg (x4 + 1))), .int (xs (Int32.toNatClampNeg (x4 + 2))), .ref o]) (rest := []) (rv := 0) (r := (σ', (vp_updL f 0 (Int32.toInt64 r)))) hx hb hml hown hg C1 S0 (cH_cut_ret l C1.1 dC dI a cs s.heap.size H.size S0.2.2.2.2.2.1 C1.2.2.2.2.2.2.2.2.2.2.1 o cO f C1.2.2.2.2.2.2.2.2.1 σ (xs (Int32.toNatClampNeg (x4 + 1))) (xs (Int32.toNatClampNeg (x4 + 2))) (r, σ') e1) rfl wl322 rfl rfl wl323 wl324 wl306 (by decide +kernel) (by decide +kernel) ⟨Nat.le_of_ble_eq_true rfl, Nat.le_of_ble_eq_true rfl⟩ rfl hl.1 rfl (Nat.le_of_ble_eq_true rfl) d_Law_law_238 ⟨Nat.le_of_succ_le hf.1, Nat.le_trans (Nat.le_add_right _ _) hf.2⟩ (fun H locs S0 => ?_)
    refine W.widen (k := cells + 1) (n := slots + 6) (by omega) (by omega) ?_
    refine lv_istore (lv' := [(5, .int 0), (0, .ref b0), (1, .ref (a 0)), (2, .ref (b 0)), (3, .ref o), (4, .int x4)]) hx hb d_Law_law_241 hl (by decide) rfl (fun ls hl => ?_)
    refine lv_aload_n hx hb d_Law_law_243 rfl (lv_at hl 3 rfl) ?_
    refine lv_aload_n hx hb d_Law_law_244 rfl (lv_at hl 1 rfl) ?_
    refine lv_iload hx hb d_Law_law_245 (lv_at hl 5 rfl) ?_
    refine lv_iconst (v := 1) hx hb d_Law_law_247 (by decide) ?_
    refine lv_iadd hx hb d_Law_law_248 ?_
    refine va_sld hx hb hX hbl (A := fun q => s.heap.size ≤ q) (Nat.not_le.mpr hbl) S0.2.2.2.2.2 h1 d_Law_law_249 ?_
    refine lv_aload_n hx hb d_Law_law_250 rfl (lv_at hl 1 rfl) ?_
    refine lv_iload hx hb d_Law_law_251 (lv_at hl 5 rfl) ?_
    refine lv_iconst (v := 2) hx hb d_Law_law_253 (by decide) ?_
    refine lv_iadd hx hb d_Law_law_254 ?_
    refine va_sld hx hb hX hbl (A := fun q => s.heap.size ≤ q) (Nat.not_le.mpr hbl) S0.2.2.2.2.2 h2 d_Law_law_255 ?_
    refine lw_cM (As := [.int (xs (Int32.toNatClampNeg (x4 + 1))), .int (xs (Int32.toNatClampNeg (x4 + 2)))]) (rest := []) (r := (r, τ')) hx hb hml hown hg C1 S0 (c_Model_cut l dC dI b ds H.size τ (xs (Int32.toNatClampNeg (x4 + 1))) (xs (Int32.toNatClampNeg (x4 + 2))) (r, τ') e2) (cwV 2 hg (gdV wl325 wl326 wl327 wd215 wl328) rfl rfl rfl (by decide +kernel) ⟨Nat.le_of_ble_eq_true rfl, Nat.le_of_ble_eq_true rfl⟩) rfl hl.1 rfl (Nat.le_of_ble_eq_true rfl) d_Law_law_256 hf (fun H locs S0 => ?_)
    refine lv_istore (lv' := [(6, .int r), (5, .int 0), (0, .ref b0), (1, .ref (a 0)), (2, .ref (b 0)), (3, .ref o), (4, .int x4)]) hx hb d_Law_law_259 hl (by decide) rfl (fun ls hl => ?_)
    refine lv_aload_n hx hb d_Law_law_261 rfl (lv_at hl 4 rfl) ?_
    refine lw_rM (As := []) (rest := []) hx hb hml hown hg C1 S0 (c_Model_thrown l dC dI b ds τ' 0 (by unfold f_Model_thrown; exact ht)) (cwV 0 hg (gdV wl311 wl312 wl313 wd215 wl314) rfl rfl rfl (by decide +kernel) ⟨Nat.le_of_ble_eq_true rfl, Nat.le_of_ble_eq_true rfl⟩) rfl hl.1 rfl (Nat.le_of_ble_eq_true rfl) d_Law_law_262 hf ?_
    refine lv_iload hx hb d_Law_law_265 (lv_at hl 1 rfl) ?_
    refine lv_icmp_eq (tgt := 272) hx hb d_Law_law_267 (by decide) (fun _ => ?_) (fun cc => absurd rfl cc)
    refine lv_iload hx hb d_Law_law_272 (lv_at hl 1 rfl) ?_
    refine lv_if_ne (tgt := 289) hx hb d_Law_law_274 (by decide) (fun cc => absurd rfl cc) (fun _ => ?_)
    refine lv_aload_n hx hb d_Law_law_277 rfl (lv_at hl 5 rfl) ?_
    refine lv_iconst (v := 0) hx hb d_Law_law_278 (by decide) ?_
    refine va_lald (f := (vp_updL f 0 (Int32.toInt64 r))) (n := 1) hx hb C1.2.2.2.1 S0.2.2.2.2.1 0 0 rfl rfl vin01 d_Law_law_279 ?_
    refine lv_iload hx hb d_Law_law_280 (lv_at hl 0 rfl) ?_
    refine lv_i2l (v := Int32.toInt64 r) hx hb d_Law_law_282 rfl ?_
    refine W.lcmp hx hb d_Law_law_283 ?_
    refine lv_if_eq (tgt := 289) hx hb d_Law_law_284 (by decide) (fun _ => ?_) (fun cc => absurd (lg_same f r) cc)
    refine lv_goto (tgt := 762) hx hb d_Law_law_289 (by decide) ?_
    exact kk σ' τ' (vp_updL f 0 (Int32.toInt64 r)) H locs ls hR S0 (lv_sub hl [2, 3, 4, 5, 6] rfl)
  · refine lw_cH (n := 4) (As := [.ref (a 0), .int (xs (Int32.toNatClampNeg (x4 + 1))), .int (xs (Int32.toNatClampNeg (x4 + 2))), .ref o]) (rest := []) (rv := 1) (r := (σ', f)) hx hb hml hown hg C1 S0 (cH_cut_IOB l C1.1 dC dI a cs s.heap.size H.size S0.2.2.2.2.2.1 C1.2.2.2.2.2.2.2.2.2.2.1 o cO f C1.2.2.2.2.2.2.2.2.1 σ (xs (Int32.toNatClampNeg (x4 + 1))) (xs (Int32.toNatClampNeg (x4 + 2))) σ' e1) rfl wl322 rfl rfl wl323 wl324 wl306 (by decide +kernel) (by decide +kernel) ⟨Nat.le_of_ble_eq_true rfl, Nat.le_of_ble_eq_true rfl⟩ rfl hl.1 rfl (Nat.le_of_ble_eq_true rfl) d_Law_law_238 hf (fun H locs S0 => ?_)
    refine W.widen (k := cells + 1) (n := slots + 6) (by omega) (by omega) ?_
    refine lv_istore (lv' := [(5, .int 1), (0, .ref b0), (1, .ref (a 0)), (2, .ref (b 0)), (3, .ref o), (4, .int x4)]) hx hb d_Law_law_241 hl (by decide) rfl (fun ls hl => ?_)
    refine lv_aload_n hx hb d_Law_law_243 rfl (lv_at hl 3 rfl) ?_
    refine lv_aload_n hx hb d_Law_law_244 rfl (lv_at hl 1 rfl) ?_
    refine lv_iload hx hb d_Law_law_245 (lv_at hl 5 rfl) ?_
    refine lv_iconst (v := 1) hx hb d_Law_law_247 (by decide) ?_
    refine lv_iadd hx hb d_Law_law_248 ?_
    refine va_sld hx hb hX hbl (A := fun q => s.heap.size ≤ q) (Nat.not_le.mpr hbl) S0.2.2.2.2.2 h1 d_Law_law_249 ?_
    refine lv_aload_n hx hb d_Law_law_250 rfl (lv_at hl 1 rfl) ?_
    refine lv_iload hx hb d_Law_law_251 (lv_at hl 5 rfl) ?_
    refine lv_iconst (v := 2) hx hb d_Law_law_253 (by decide) ?_
    refine lv_iadd hx hb d_Law_law_254 ?_
    refine va_sld hx hb hX hbl (A := fun q => s.heap.size ≤ q) (Nat.not_le.mpr hbl) S0.2.2.2.2.2 h2 d_Law_law_255 ?_
    refine lw_cM (As := [.int (xs (Int32.toNatClampNeg (x4 + 1))), .int (xs (Int32.toNatClampNeg (x4 + 2)))]) (rest := []) (r := (r, τ')) hx hb hml hown hg C1 S0 (c_Model_cut l dC dI b ds H.size τ (xs (Int32.toNatClampNeg (x4 + 1))) (xs (Int32.toNatClampNeg (x4 + 2))) (r, τ') e2) (cwV 2 hg (gdV wl325 wl326 wl327 wd215 wl328) rfl rfl rfl (by decide +kernel) ⟨Nat.le_of_ble_eq_true rfl, Nat.le_of_ble_eq_true rfl⟩) rfl hl.1 rfl (Nat.le_of_ble_eq_true rfl) d_Law_law_256 hf (fun H locs S0 => ?_)
    refine lv_istore (lv' := [(6, .int r), (5, .int 1), (0, .ref b0), (1, .ref (a 0)), (2, .ref (b 0)), (3, .ref o), (4, .int x4)]) hx hb d_Law_law_259 hl (by decide) rfl (fun ls hl => ?_)
    refine lv_aload_n hx hb d_Law_law_261 rfl (lv_at hl 4 rfl) ?_
    refine lw_rM (As := []) (rest := []) hx hb hml hown hg C1 S0 (c_Model_thrown l dC dI b ds τ' 1 (by unfold f_Model_thrown; exact ht)) (cwV 0 hg (gdV wl311 wl312 wl313 wd215 wl314) rfl rfl rfl (by decide +kernel) ⟨Nat.le_of_ble_eq_true rfl, Nat.le_of_ble_eq_true rfl⟩) rfl hl.1 rfl (Nat.le_of_ble_eq_true rfl) d_Law_law_262 hf ?_
    refine lv_iload hx hb d_Law_law_265 (lv_at hl 1 rfl) ?_
    refine lv_icmp_eq (tgt := 272) hx hb d_Law_law_267 (by decide) (fun _ => ?_) (fun cc => absurd rfl cc)
    refine lv_iload hx hb d_Law_law_272 (lv_at hl 1 rfl) ?_
    refine lv_if_ne (tgt := 289) hx hb d_Law_law_274 (by decide) (fun _ => ?_) (fun cc => absurd cc (by decide))
    refine lv_goto (tgt := 762) hx hb d_Law_law_289 (by decide) ?_
    exact kk σ' τ' f H locs ls hR S0 (lv_sub hl [2, 3, 4, 5, 6] rfl)
set_option maxHeartbeats 4000000 in
set_option maxRecDepth 100000 in
theorem law_turn (hx : p.tables.exec = Jvm.exec) (hb : c.code = code) (hml : c.maxLocals = 7) (hown : s.vm.findClass "BlockRulerLaw" = some m.cls) (hg : ∀ w ∈ G_, w.before #[Value.ref b0] s = true) (hX : va_X b0 L xs s s.heap) (hbl : b0 < s.heap.size) (C1 : LCx l s dC dI a cs b ds o cO) (S0 : LSt s dC dI a cs b ds o cO σ τ f H locs) (h1 : vp_in (x4 + 1) L) (h2 : vp_in (x4 + 2) L) (h3 : vp_in (x4 + 3) L) (hl : lv_has ls 7 [(0, .ref b0), (1, .ref (a 0)), (2, .ref (b 0)), (3, .ref o), (4, .int x4)]) (hf : cells + 1 ≤ room_1.cells ∧ slots + 6 ≤ room_1.slots) (hp : ∃ (r : Int32) (τ' : SM), f_Model_turn τ (xs (Int32.toNatClampNeg (x4 + 1))) (xs (Int32.toNatClampNeg (x4 + 2))) (xs (Int32.toNatClampNeg (x4 + 3))) = some (r, τ') ∧ ((∃ σ' : SB, f_BlockRuler_turn σ (xs (Int32.toNatClampNeg (x4 + 1))) (xs (Int32.toNatClampNeg (x4 + 2))) (xs (Int32.toNatClampNeg (x4 + 3))) = some (Sum.inr r, σ') ∧ sM_thrown τ' = 0 ∧ Rel σ' τ') ∨ (∃ σ' : SB, f_BlockRuler_turn σ (xs (Int32.toNatClampNeg (x4 + 1))) (xs (Int32.toNatClampNeg (x4 + 2))) (xs (Int32.toNatClampNeg (x4 + 3))) = some (Sum.inl 2, σ') ∧ sM_thrown τ' = 1 ∧ Rel σ' τ') ∨ (∃ σ' : SB, f_BlockRuler_turn σ (xs (Int32.toNatClampNeg (x4 + 1))) (xs (Int32.toNatClampNeg (x4 + 2))) (xs (Int32.toNatClampNeg (x4 + 3))) = some (Sum.inl 1, σ') ∧ sM_thrown τ' = 2 ∧ Rel σ' τ'))) (kk : ∀ (σ' : SB) (τ' : SM) (f' : Nat → Int64) (H : Heap) (locs : List Loc) (ls : Array Slot), Rel σ' τ' → LSt s dC dI a cs b ds o cO σ' τ' f' H locs → lv_has ls 7 [(0, .ref b0), (1, .ref (a 0)), (2, .ref (b 0)), (3, .ref o), (4, .int x4)] → W p l e room_1 s m #[Value.ref b0] below meth c H locs (cells + 1) (slots + 6) Q (F0 m 762 ls [])) : W p l e room_1 s m #[Value.ref b0] below meth c H locs cells slots Q (F0 m 292 ls []) := by
  obtain ⟨r, τ', e2, hp⟩ := hp
  refine lv_aload_n hx hb d_Law_law_292 rfl (lv_at hl 1 rfl) ?_
  refine lv_aload_n hx hb d_Law_law_293 rfl (lv_at hl 0 rfl) ?_
  refine lv_iload hx hb d_Law_law_294 (lv_at hl 4 rfl) ?_
  refine lv_iconst (v := 1) hx hb d_Law_law_296 (by decide) ?_
  refine lv_iadd hx hb d_Law_law_297 ?_
  refine va_sld hx hb hX hbl (A := fun q => s.heap.size ≤ q) (Nat.not_le.mpr hbl) S0.2.2.2.2.2 h1 d_Law_law_298 ?_
  refine lv_aload_n hx hb d_Law_law_299 rfl (lv_at hl 0 rfl) ?_
  refine lv_iload hx hb d_Law_law_300 (lv_at hl 4 rfl) ?_
  refine lv_iconst (v := 2) hx hb d_Law_law_302 (by decide) ?_
  refine lv_iadd hx hb d_Law_law_303 ?_
  refine va_sld hx hb hX hbl (A := fun q => s.heap.size ≤ q) (Nat.not_le.mpr hbl) S0.2.2.2.2.2 h2 d_Law_law_304 ?_
  refine lv_aload_n hx hb d_Law_law_305 rfl (lv_at hl 0 rfl) ?_
  refine lv_iload hx hb d_Law_law_306 (lv_at hl 4 rfl) ?_
  refine lv_iconst (v := 3) hx hb d_Law_law_308 (by decide) ?_
  refine lv_iadd hx hb d_Law_law_309 ?_
  refine va_sld hx hb hX hbl (A := fun q => s.heap.size ≤ q) (Nat.not_le.mpr hbl) S0.2.2.2.2.2 h3 d_Law_law_310 ?_
  refine lv_aload_n hx hb d_Law_law_311 rfl (lv_at hl 3 rfl) ?_
  rcases hp with ⟨σ', e1, ht, hR⟩ | ⟨σ', e1, ht, hR⟩ | ⟨σ', e1, ht, hR⟩
  · refine lw_cH (n := 5) (As := [.ref (a 0), .int (xs (Int32.toNatClampNeg (x4 + 1))), .int (xs (Int32.toNatClampNeg (x4 + 2))), .int (xs (Int32.toNatClampNeg (x4 + 3))), .ref o]) (rest := []) (rv := 0) (r := (σ', (vp_updL f 0 (Int32.toInt64 r)))) hx hb hml hown hg C1 S0 (cH_turn_ret l C1.1 dC dI a cs s.heap.size H.size S0.2.2.2.2.2.1 C1.2.2.2.2.2.2.2.2.2.2.1 o cO f C1.2.2.2.2.2.2.2.2.1 σ (xs (Int32.toNatClampNeg (x4 + 1))) (xs (Int32.toNatClampNeg (x4 + 2))) (xs (Int32.toNatClampNeg (x4 + 3))) (r, σ') e1) rfl wl329 rfl rfl wl330 wl331 wl306 (by decide +kernel) (by decide +kernel) ⟨Nat.le_of_ble_eq_true rfl, Nat.le_of_ble_eq_true rfl⟩ rfl hl.1 rfl (Nat.le_of_ble_eq_true rfl) d_Law_law_312 ⟨Nat.le_of_succ_le hf.1, Nat.le_trans (Nat.le_add_right _ _) hf.2⟩ (fun H locs S0 => ?_)
    refine W.widen (k := cells + 1) (n := slots + 6) (by omega) (by omega) ?_
    refine lv_istore (lv' := [(5, .int 0), (0, .ref b0), (1, .ref (a 0)), (2, .ref (b 0)), (3, .ref o), (4, .int x4)]) hx hb d_Law_law_315 hl (by decide) rfl (fun ls hl => ?_)
    refine lv_aload_n hx hb d_Law_law_317 rfl (lv_at hl 3 rfl) ?_
    refine lv_aload_n hx hb d_Law_law_318 rfl (lv_at hl 1 rfl) ?_
    refine lv_iload hx hb d_Law_law_319 (lv_at hl 5 rfl) ?_
    refine lv_iconst (v := 1) hx hb d_Law_law_321 (by decide) ?_
    refine lv_iadd hx hb d_Law_law_322 ?_
    refine va_sld hx hb hX hbl (A := fun q => s.heap.size ≤ q) (Nat.not_le.mpr hbl) S0.2.2.2.2.2 h1 d_Law_law_323 ?_
    refine lv_aload_n hx hb d_Law_law_324 rfl (lv_at hl 1 rfl) ?_
    refine lv_iload hx hb d_Law_law_325 (lv_at hl 5 rfl) ?_
    refine lv_iconst (v := 2) hx hb d_Law_law_327 (by decide) ?_
    refine lv_iadd hx hb d_Law_law_328 ?_
    refine va_sld hx hb hX hbl (A := fun q => s.heap.size ≤ q) (Nat.not_le.mpr hbl) S0.2.2.2.2.2 h2 d_Law_law_329 ?_
    refine lv_aload_n hx hb d_Law_law_330 rfl (lv_at hl 1 rfl) ?_
    refine lv_iload hx hb d_Law_law_331 (lv_at hl 5 rfl) ?_
    refine lv_iconst (v := 3) hx hb d_Law_law_333 (by decide) ?_
    refine lv_iadd hx hb d_Law_law_334 ?_
    refine va_sld hx hb hX hbl (A := fun q => s.heap.size ≤ q) (Nat.not_le.mpr hbl) S0.2.2.2.2.2 h3 d_Law_law_335 ?_
    refine lw_cM (As := [.int (xs (Int32.toNatClampNeg (x4 + 1))), .int (xs (Int32.toNatClampNeg (x4 + 2))), .int (xs (Int32.toNatClampNeg (x4 + 3)))]) (rest := []) (r := (r, τ')) hx hb hml hown hg C1 S0 (c_Model_turn l dC dI b ds H.size τ (xs (Int32.toNatClampNeg (x4 + 1))) (xs (Int32.toNatClampNeg (x4 + 2))) (xs (Int32.toNatClampNeg (x4 + 3))) (r, τ') e2) (cwV 3 hg (gdV wl332 wl333 wl334 wd215 wl335) rfl rfl rfl (by decide +kernel) ⟨Nat.le_of_ble_eq_true rfl, Nat.le_of_ble_eq_true rfl⟩) rfl hl.1 rfl (Nat.le_of_ble_eq_true rfl) d_Law_law_336 hf (fun H locs S0 => ?_)
    refine lv_istore (lv' := [(6, .int r), (5, .int 0), (0, .ref b0), (1, .ref (a 0)), (2, .ref (b 0)), (3, .ref o), (4, .int x4)]) hx hb d_Law_law_339 hl (by decide) rfl (fun ls hl => ?_)
    refine lv_aload_n hx hb d_Law_law_341 rfl (lv_at hl 4 rfl) ?_
    refine lw_rM (As := []) (rest := []) hx hb hml hown hg C1 S0 (c_Model_thrown l dC dI b ds τ' 0 (by unfold f_Model_thrown; exact ht)) (cwV 0 hg (gdV wl311 wl312 wl313 wd215 wl314) rfl rfl rfl (by decide +kernel) ⟨Nat.le_of_ble_eq_true rfl, Nat.le_of_ble_eq_true rfl⟩) rfl hl.1 rfl (Nat.le_of_ble_eq_true rfl) d_Law_law_342 hf ?_
    refine lv_iload hx hb d_Law_law_345 (lv_at hl 1 rfl) ?_
    refine lv_icmp_eq (tgt := 352) hx hb d_Law_law_347 (by decide) (fun _ => ?_) (fun cc => absurd rfl cc)
    refine lv_iload hx hb d_Law_law_352 (lv_at hl 1 rfl) ?_
    refine lv_if_ne (tgt := 369) hx hb d_Law_law_354 (by decide) (fun cc => absurd rfl cc) (fun _ => ?_)
    refine lv_aload_n hx hb d_Law_law_357 rfl (lv_at hl 5 rfl) ?_
    refine lv_iconst (v := 0) hx hb d_Law_law_358 (by decide) ?_
    refine va_lald (f := (vp_updL f 0 (Int32.toInt64 r))) (n := 1) hx hb C1.2.2.2.1 S0.2.2.2.2.1 0 0 rfl rfl vin01 d_Law_law_359 ?_
    refine lv_iload hx hb d_Law_law_360 (lv_at hl 0 rfl) ?_
    refine lv_i2l (v := Int32.toInt64 r) hx hb d_Law_law_362 rfl ?_
    refine W.lcmp hx hb d_Law_law_363 ?_
    refine lv_if_eq (tgt := 369) hx hb d_Law_law_364 (by decide) (fun _ => ?_) (fun cc => absurd (lg_same f r) cc)
    refine lv_goto (tgt := 762) hx hb d_Law_law_369 (by decide) ?_
    exact kk σ' τ' (vp_updL f 0 (Int32.toInt64 r)) H locs ls hR S0 (lv_sub hl [2, 3, 4, 5, 6] rfl)
  · refine lw_cH (n := 5) (As := [.ref (a 0), .int (xs (Int32.toNatClampNeg (x4 + 1))), .int (xs (Int32.toNatClampNeg (x4 + 2))), .int (xs (Int32.toNatClampNeg (x4 + 3))), .ref o]) (rest := []) (rv := 1) (r := (σ', f)) hx hb hml hown hg C1 S0 (cH_turn_IOB l C1.1 dC dI a cs s.heap.size H.size S0.2.2.2.2.2.1 C1.2.2.2.2.2.2.2.2.2.2.1 o cO f C1.2.2.2.2.2.2.2.2.1 σ (xs (Int32.toNatClampNeg (x4 + 1))) (xs (Int32.toNatClampNeg (x4 + 2))) (xs (Int32.toNatClampNeg (x4 + 3))) σ' e1) rfl wl329 rfl rfl wl330 wl331 wl306 (by decide +kernel) (by decide +kernel) ⟨Nat.le_of_ble_eq_true rfl, Nat.le_of_ble_eq_true rfl⟩ rfl hl.1 rfl (Nat.le_of_ble_eq_true rfl) d_Law_law_312 hf (fun H locs S0 => ?_)
    refine W.widen (k := cells + 1) (n := slots + 6) (by omega) (by omega) ?_
    refine lv_istore (lv' := [(5, .int 1), (0, .ref b0), (1, .ref (a 0)), (2, .ref (b 0)), (3, .ref o), (4, .int x4)]) hx hb d_Law_law_315 hl (by decide) rfl (fun ls hl => ?_)
    refine lv_aload_n hx hb d_Law_law_317 rfl (lv_at hl 3 rfl) ?_
    refine lv_aload_n hx hb d_Law_law_318 rfl (lv_at hl 1 rfl) ?_
    refine lv_iload hx hb d_Law_law_319 (lv_at hl 5 rfl) ?_
    refine lv_iconst (v := 1) hx hb d_Law_law_321 (by decide) ?_
    refine lv_iadd hx hb d_Law_law_322 ?_
    refine va_sld hx hb hX hbl (A := fun q => s.heap.size ≤ q) (Nat.not_le.mpr hbl) S0.2.2.2.2.2 h1 d_Law_law_323 ?_
    refine lv_aload_n hx hb d_Law_law_324 rfl (lv_at hl 1 rfl) ?_
    refine lv_iload hx hb d_Law_law_325 (lv_at hl 5 rfl) ?_
    refine lv_iconst (v := 2) hx hb d_Law_law_327 (by decide) ?_
    refine lv_iadd hx hb d_Law_law_328 ?_
    refine va_sld hx hb hX hbl (A := fun q => s.heap.size ≤ q) (Nat.not_le.mpr hbl) S0.2.2.2.2.2 h2 d_Law_law_329 ?_
    refine lv_aload_n hx hb d_Law_law_330 rfl (lv_at hl 1 rfl) ?_
    refine lv_iload hx hb d_Law_law_331 (lv_at hl 5 rfl) ?_
    refine lv_iconst (v := 3) hx hb d_Law_law_333 (by decide) ?_
    refine lv_iadd hx hb d_Law_law_334 ?_
    refine va_sld hx hb hX hbl (A := fun q => s.heap.size ≤ q) (Nat.not_le.mpr hbl) S0.2.2.2.2.2 h3 d_Law_law_335 ?_
    refine lw_cM (As := [.int (xs (Int32.toNatClampNeg (x4 + 1))), .int (xs (Int32.toNatClampNeg (x4 + 2))), .int (xs (Int32.toNatClampNeg (x4 + 3)))]) (rest := []) (r := (r, τ')) hx hb hml hown hg C1 S0 (c_Model_turn l dC dI b ds H.size τ (xs (Int32.toNatClampNeg (x4 + 1))) (xs (Int32.toNatClampNeg (x4 + 2))) (xs (Int32.toNatClampNeg (x4 + 3))) (r, τ') e2) (cwV 3 hg (gdV wl332 wl333 wl334 wd215 wl335) rfl rfl rfl (by decide +kernel) ⟨Nat.le_of_ble_eq_true rfl, Nat.le_of_ble_eq_true rfl⟩) rfl hl.1 rfl (Nat.le_of_ble_eq_true rfl) d_Law_law_336 hf (fun H locs S0 => ?_)
    refine lv_istore (lv' := [(6, .int r), (5, .int 1), (0, .ref b0), (1, .ref (a 0)), (2, .ref (b 0)), (3, .ref o), (4, .int x4)]) hx hb d_Law_law_339 hl (by decide) rfl (fun ls hl => ?_)
    refine lv_aload_n hx hb d_Law_law_341 rfl (lv_at hl 4 rfl) ?_
    refine lw_rM (As := []) (rest := []) hx hb hml hown hg C1 S0 (c_Model_thrown l dC dI b ds τ' 1 (by unfold f_Model_thrown; exact ht)) (cwV 0 hg (gdV wl311 wl312 wl313 wd215 wl314) rfl rfl rfl (by decide +kernel) ⟨Nat.le_of_ble_eq_true rfl, Nat.le_of_ble_eq_true rfl⟩) rfl hl.1 rfl (Nat.le_of_ble_eq_true rfl) d_Law_law_342 hf ?_
    refine lv_iload hx hb d_Law_law_345 (lv_at hl 1 rfl) ?_
    refine lv_icmp_eq (tgt := 352) hx hb d_Law_law_347 (by decide) (fun _ => ?_) (fun cc => absurd rfl cc)
    refine lv_iload hx hb d_Law_law_352 (lv_at hl 1 rfl) ?_
    refine lv_if_ne (tgt := 369) hx hb d_Law_law_354 (by decide) (fun _ => ?_) (fun cc => absurd cc (by decide))
    refine lv_goto (tgt := 762) hx hb d_Law_law_369 (by decide) ?_
    exact kk σ' τ' f H locs ls hR S0 (lv_sub hl [2, 3, 4, 5, 6] rfl)
  · refine lw_cH (n := 5) (As := [.ref (a 0), .int (xs (Int32.toNatClampNeg (x4 + 1))), .int (xs (Int32.toNatClampNeg (x4 + 2))), .int (xs (Int32.toNatClampNeg (x4 + 3))), .ref o]) (rest := []) (rv := 2) (r := (σ', f)) hx hb hml hown hg C1 S0 (cH_turn_IAE l C1.1 dC dI a cs s.heap.size H.size S0.2.2.2.2.2.1 C1.2.2.2.2.2.2.2.2.2.2.1 o cO f C1.2.2.2.2.2.2.2.2.1 σ (xs (Int32.toNatClampNeg (x4 + 1))) (xs (Int32.toNatClampNeg (x4 + 2))) (xs (Int32.toNatClampNeg (x4 + 3))) σ' e1) rfl wl329 rfl rfl wl330 wl331 wl306 (by decide +kernel) (by decide +kernel) ⟨Nat.le_of_ble_eq_true rfl, Nat.le_of_ble_eq_true rfl⟩ rfl hl.1 rfl (Nat.le_of_ble_eq_true rfl) d_Law_law_312 hf (fun H locs S0 => ?_)
    refine W.widen (k := cells + 1) (n := slots + 6) (by omega) (by omega) ?_
    refine lv_istore (lv' := [(5, .int 2), (0, .ref b0), (1, .ref (a 0)), (2, .ref (b 0)), (3, .ref o), (4, .int x4)]) hx hb d_Law_law_315 hl (by decide) rfl (fun ls hl => ?_)
    refine lv_aload_n hx hb d_Law_law_317 rfl (lv_at hl 3 rfl) ?_
    refine lv_aload_n hx hb d_Law_law_318 rfl (lv_at hl 1 rfl) ?_
    refine lv_iload hx hb d_Law_law_319 (lv_at hl 5 rfl) ?_
    refine lv_iconst (v := 1) hx hb d_Law_law_321 (by decide) ?_
    refine lv_iadd hx hb d_Law_law_322 ?_
    refine va_sld hx hb hX hbl (A := fun q => s.heap.size ≤ q) (Nat.not_le.mpr hbl) S0.2.2.2.2.2 h1 d_Law_law_323 ?_
    refine lv_aload_n hx hb d_Law_law_324 rfl (lv_at hl 1 rfl) ?_
    refine lv_iload hx hb d_Law_law_325 (lv_at hl 5 rfl) ?_
    refine lv_iconst (v := 2) hx hb d_Law_law_327 (by decide) ?_
    refine lv_iadd hx hb d_Law_law_328 ?_
    refine va_sld hx hb hX hbl (A := fun q => s.heap.size ≤ q) (Nat.not_le.mpr hbl) S0.2.2.2.2.2 h2 d_Law_law_329 ?_
    refine lv_aload_n hx hb d_Law_law_330 rfl (lv_at hl 1 rfl) ?_
    refine lv_iload hx hb d_Law_law_331 (lv_at hl 5 rfl) ?_
    refine lv_iconst (v := 3) hx hb d_Law_law_333 (by decide) ?_
    refine lv_iadd hx hb d_Law_law_334 ?_
    refine va_sld hx hb hX hbl (A := fun q => s.heap.size ≤ q) (Nat.not_le.mpr hbl) S0.2.2.2.2.2 h3 d_Law_law_335 ?_
    refine lw_cM (As := [.int (xs (Int32.toNatClampNeg (x4 + 1))), .int (xs (Int32.toNatClampNeg (x4 + 2))), .int (xs (Int32.toNatClampNeg (x4 + 3)))]) (rest := []) (r := (r, τ')) hx hb hml hown hg C1 S0 (c_Model_turn l dC dI b ds H.size τ (xs (Int32.toNatClampNeg (x4 + 1))) (xs (Int32.toNatClampNeg (x4 + 2))) (xs (Int32.toNatClampNeg (x4 + 3))) (r, τ') e2) (cwV 3 hg (gdV wl332 wl333 wl334 wd215 wl335) rfl rfl rfl (by decide +kernel) ⟨Nat.le_of_ble_eq_true rfl, Nat.le_of_ble_eq_true rfl⟩) rfl hl.1 rfl (Nat.le_of_ble_eq_true rfl) d_Law_law_336 hf (fun H locs S0 => ?_)
    refine lv_istore (lv' := [(6, .int r), (5, .int 2), (0, .ref b0), (1, .ref (a 0)), (2, .ref (b 0)), (3, .ref o), (4, .int x4)]) hx hb d_Law_law_339 hl (by decide) rfl (fun ls hl => ?_)
    refine lv_aload_n hx hb d_Law_law_341 rfl (lv_at hl 4 rfl) ?_
    refine lw_rM (As := []) (rest := []) hx hb hml hown hg C1 S0 (c_Model_thrown l dC dI b ds τ' 2 (by unfold f_Model_thrown; exact ht)) (cwV 0 hg (gdV wl311 wl312 wl313 wd215 wl314) rfl rfl rfl (by decide +kernel) ⟨Nat.le_of_ble_eq_true rfl, Nat.le_of_ble_eq_true rfl⟩) rfl hl.1 rfl (Nat.le_of_ble_eq_true rfl) d_Law_law_342 hf ?_
    refine lv_iload hx hb d_Law_law_345 (lv_at hl 1 rfl) ?_
    refine lv_icmp_eq (tgt := 352) hx hb d_Law_law_347 (by decide) (fun _ => ?_) (fun cc => absurd rfl cc)
    refine lv_iload hx hb d_Law_law_352 (lv_at hl 1 rfl) ?_
    refine lv_if_ne (tgt := 369) hx hb d_Law_law_354 (by decide) (fun _ => ?_) (fun cc => absurd cc (by decide))
    refine lv_goto (tgt := 762) hx hb d_Law_law_369 (by decide) ?_
    exact kk σ' τ' f H locs ls hR S0 (lv_sub hl [2, 3, 4, 5, 6] rfl)
set_option maxHeartbeats 4000000 in
set_option maxRecDepth 100000 in
theorem law_end (hx : p.tables.exec = Jvm.exec) (hb : c.code = code) (hml : c.maxLocals = 7) (hown : s.vm.findClass "BlockRulerLaw" = some m.cls) (hg : ∀ w ∈ G_, w.before #[Value.ref b0] s = true) (hX : va_X b0 L xs s s.heap) (hbl : b0 < s.heap.size) (C1 : LCx l s dC dI a cs b ds o cO) (S0 : LSt s dC dI a cs b ds o cO σ τ f H locs) (h1 : vp_in (x4 + 1) L) (h2 : vp_in (x4 + 2) L) (h3 : vp_in (x4 + 3) L) (hl : lv_has ls 7 [(0, .ref b0), (1, .ref (a 0)), (2, .ref (b 0)), (3, .ref o), (4, .int x4)]) (hf : cells + 1 ≤ room_1.cells ∧ slots + 6 ≤ room_1.slots) (hp : ∃ (r : Int32) (τ' : SM), f_BlockRuler_end σ (xs (Int32.toNatClampNeg (x4 + 1))) (xs (Int32.toNatClampNeg (x4 + 2))) = some r ∧ f_Model_end τ (xs (Int32.toNatClampNeg (x4 + 1))) (xs (Int32.toNatClampNeg (x4 + 2))) = some (r, τ') ∧ Rel σ τ') (kk : ∀ (σ' : SB) (τ' : SM) (f' : Nat → Int64) (H : Heap) (locs : List Loc) (ls : Array Slot), Rel σ' τ' → LSt s dC dI a cs b ds o cO σ' τ' f' H locs → lv_has ls 7 [(0, .ref b0), (1, .ref (a 0)), (2, .ref (b 0)), (3, .ref o), (4, .int x4)] → W p l e room_1 s m #[Value.ref b0] below meth c H locs (cells + 1) (slots + 6) Q (F0 m 762 ls [])) : W p l e room_1 s m #[Value.ref b0] below meth c H locs cells slots Q (F0 m 372 ls []) := by
  obtain ⟨r, τ', e1, e2, hR⟩ := hp
  refine lv_aload_n hx hb d_Law_law_372 rfl (lv_at hl 1 rfl) ?_
  refine lv_aload_n hx hb d_Law_law_373 rfl (lv_at hl 0 rfl) ?_
  refine lv_iload hx hb d_Law_law_374 (lv_at hl 4 rfl) ?_
  refine lv_iconst (v := 1) hx hb d_Law_law_376 (by decide) ?_
  refine lv_iadd hx hb d_Law_law_377 ?_
  refine va_sld hx hb hX hbl (A := fun q => s.heap.size ≤ q) (Nat.not_le.mpr hbl) S0.2.2.2.2.2 h1 d_Law_law_378 ?_
  refine lv_aload_n hx hb d_Law_law_379 rfl (lv_at hl 0 rfl) ?_
  refine lv_iload hx hb d_Law_law_380 (lv_at hl 4 rfl) ?_
  refine lv_iconst (v := 2) hx hb d_Law_law_382 (by decide) ?_
  refine lv_iadd hx hb d_Law_law_383 ?_
  refine va_sld hx hb hX hbl (A := fun q => s.heap.size ≤ q) (Nat.not_le.mpr hbl) S0.2.2.2.2.2 h2 d_Law_law_384 ?_
  refine lw_rB (As := [.int (xs (Int32.toNatClampNeg (x4 + 1))), .int (xs (Int32.toNatClampNeg (x4 + 2)))]) (rest := []) hx hb hml hown hg C1 S0 (c_BlockRuler_end l dC dI a cs σ (xs (Int32.toNatClampNeg (x4 + 1))) (xs (Int32.toNatClampNeg (x4 + 2))) r e1) (cwV 2 hg (gdV wl336 wl337 wl338 wd22 wl339) rfl rfl rfl (by decide +kernel) ⟨Nat.le_of_ble_eq_true rfl, Nat.le_of_ble_eq_true rfl⟩) rfl hl.1 rfl (Nat.le_of_ble_eq_true rfl) d_Law_law_385 ⟨Nat.le_of_succ_le hf.1, Nat.le_trans (Nat.le_add_right _ _) hf.2⟩ ?_
  refine lv_aload_n hx hb d_Law_law_388 rfl (lv_at hl 2 rfl) ?_
  refine lv_aload_n hx hb d_Law_law_389 rfl (lv_at hl 0 rfl) ?_
  refine lv_iload hx hb d_Law_law_390 (lv_at hl 4 rfl) ?_
  refine lv_iconst (v := 1) hx hb d_Law_law_392 (by decide) ?_
  refine lv_iadd hx hb d_Law_law_393 ?_
  refine va_sld hx hb hX hbl (A := fun q => s.heap.size ≤ q) (Nat.not_le.mpr hbl) S0.2.2.2.2.2 h1 d_Law_law_394 ?_
  refine lv_aload_n hx hb d_Law_law_395 rfl (lv_at hl 0 rfl) ?_
  refine lv_iload hx hb d_Law_law_396 (lv_at hl 4 rfl) ?_
  refine lv_iconst (v := 2) hx hb d_Law_law_398 (by decide) ?_
  refine lv_iadd hx hb d_Law_law_399 ?_
  refine va_sld hx hb hX hbl (A := fun q => s.heap.size ≤ q) (Nat.not_le.mpr hbl) S0.2.2.2.2.2 h2 d_Law_law_400 ?_
  refine lw_cM (As := [.int (xs (Int32.toNatClampNeg (x4 + 1))), .int (xs (Int32.toNatClampNeg (x4 + 2)))]) (rest := [.int r]) (r := (r, τ')) hx hb hml hown hg C1 S0 (c_Model_end l dC dI b ds H.size τ (xs (Int32.toNatClampNeg (x4 + 1))) (xs (Int32.toNatClampNeg (x4 + 2))) (r, τ') e2) (cwV 2 hg (gdV wl340 wl341 wl342 wd215 wl343) rfl rfl rfl (by decide +kernel) ⟨Nat.le_of_ble_eq_true rfl, Nat.le_of_ble_eq_true rfl⟩) rfl hl.1 rfl (Nat.le_of_ble_eq_true rfl) d_Law_law_401 ⟨Nat.le_of_succ_le hf.1, Nat.le_trans (Nat.le_add_right _ _) hf.2⟩ (fun H locs S0 => ?_)
  refine lv_icmp_eq (tgt := 762) hx hb d_Law_law_404 (by decide) (fun _ => ?_) (fun cc => absurd rfl cc)
  refine W.widen (k := cells + 1) (n := slots + 6) (Nat.le_add_right _ _) (Nat.le_add_right _ _) ?_
  exact kk σ τ' f H locs ls hR S0 hl
set_option maxHeartbeats 4000000 in
set_option maxRecDepth 100000 in
theorem law_order (hx : p.tables.exec = Jvm.exec) (hb : c.code = code) (hml : c.maxLocals = 7) (hown : s.vm.findClass "BlockRulerLaw" = some m.cls) (hg : ∀ w ∈ G_, w.before #[Value.ref b0] s = true) (hX : va_X b0 L xs s s.heap) (hbl : b0 < s.heap.size) (C1 : LCx l s dC dI a cs b ds o cO) (S0 : LSt s dC dI a cs b ds o cO σ τ f H locs) (h1 : vp_in (x4 + 1) L) (h2 : vp_in (x4 + 2) L) (h3 : vp_in (x4 + 3) L) (hl : lv_has ls 7 [(0, .ref b0), (1, .ref (a 0)), (2, .ref (b 0)), (3, .ref o), (4, .int x4)]) (hf : cells + 1 ≤ room_1.cells ∧ slots + 6 ≤ room_1.slots) (hp : ∃ (r : Int32) (σ' : SB) (τ' : SM), f_BlockRuler_order σ (xs (Int32.toNatClampNeg (x4 + 1))) = some (r, σ') ∧ f_Model_order τ (xs (Int32.toNatClampNeg (x4 + 1))) = some (r, τ') ∧ Rel σ' τ') (kk : ∀ (σ' : SB) (τ' : SM) (f' : Nat → Int64) (H : Heap) (locs : List Loc) (ls : Array Slot), Rel σ' τ' → LSt s dC dI a cs b ds o cO σ' τ' f' H locs → lv_has ls 7 [(0, .ref b0), (1, .ref (a 0)), (2, .ref (b 0)), (3, .ref o), (4, .int x4)] → W p l e room_1 s m #[Value.ref b0] below meth c H locs (cells + 1) (slots + 6) Q (F0 m 762 ls [])) : W p l e room_1 s m #[Value.ref b0] below meth c H locs cells slots Q (F0 m 409 ls []) := by
  obtain ⟨r, σ', τ', e1, e2, hR⟩ := hp
  refine lv_aload_n hx hb d_Law_law_409 rfl (lv_at hl 1 rfl) ?_
  refine lv_aload_n hx hb d_Law_law_410 rfl (lv_at hl 0 rfl) ?_
  refine lv_iload hx hb d_Law_law_411 (lv_at hl 4 rfl) ?_
  refine lv_iconst (v := 1) hx hb d_Law_law_413 (by decide) ?_
  refine lv_iadd hx hb d_Law_law_414 ?_
  refine va_sld hx hb hX hbl (A := fun q => s.heap.size ≤ q) (Nat.not_le.mpr hbl) S0.2.2.2.2.2 h1 d_Law_law_415 ?_
  refine lw_cB (As := [.int (xs (Int32.toNatClampNeg (x4 + 1)))]) (rest := []) (r := (r, σ')) hx hb hml hown hg C1 S0 (c_BlockRuler_order l dC dI a cs H.size σ (xs (Int32.toNatClampNeg (x4 + 1))) (r, σ') e1) (cwV 1 hg (gdV wl344 wl345 wl346 wd22 wl347) rfl rfl rfl (by decide +kernel) ⟨Nat.le_of_ble_eq_true rfl, Nat.le_of_ble_eq_true rfl⟩) rfl hl.1 rfl (Nat.le_of_ble_eq_true rfl) d_Law_law_416 ⟨Nat.le_of_succ_le hf.1, Nat.le_trans (Nat.le_add_right _ _) hf.2⟩ (fun H locs S0 => ?_)
  refine lv_aload_n hx hb d_Law_law_419 rfl (lv_at hl 2 rfl) ?_
  refine lv_aload_n hx hb d_Law_law_420 rfl (lv_at hl 0 rfl) ?_
  refine lv_iload hx hb d_Law_law_421 (lv_at hl 4 rfl) ?_
  refine lv_iconst (v := 1) hx hb d_Law_law_423 (by decide) ?_
  refine lv_iadd hx hb d_Law_law_424 ?_
  refine va_sld hx hb hX hbl (A := fun q => s.heap.size ≤ q) (Nat.not_le.mpr hbl) S0.2.2.2.2.2 h1 d_Law_law_425 ?_
  refine lw_cM (As := [.int (xs (Int32.toNatClampNeg (x4 + 1)))]) (rest := [.int r]) (r := (r, τ')) hx hb hml hown hg C1 S0 (c_Model_order l dC dI b ds H.size τ (xs (Int32.toNatClampNeg (x4 + 1))) (r, τ') e2) (cwV 1 hg (gdV wl348 wl349 wl350 wd215 wl351) rfl rfl rfl (by decide +kernel) ⟨Nat.le_of_ble_eq_true rfl, Nat.le_of_ble_eq_true rfl⟩) rfl hl.1 rfl (Nat.le_of_ble_eq_true rfl) d_Law_law_426 ⟨Nat.le_of_succ_le hf.1, Nat.le_trans (Nat.le_add_right _ _) hf.2⟩ (fun H locs S0 => ?_)
  refine lv_icmp_eq (tgt := 762) hx hb d_Law_law_429 (by decide) (fun _ => ?_) (fun cc => absurd rfl cc)
  refine W.widen (k := cells + 1) (n := slots + 6) (Nat.le_add_right _ _) (Nat.le_add_right _ _) ?_
  exact kk σ' τ' f H locs ls hR S0 hl
set_option maxHeartbeats 4000000 in
set_option maxRecDepth 100000 in
theorem law_at (hx : p.tables.exec = Jvm.exec) (hb : c.code = code) (hml : c.maxLocals = 7) (hown : s.vm.findClass "BlockRulerLaw" = some m.cls) (hg : ∀ w ∈ G_, w.before #[Value.ref b0] s = true) (hX : va_X b0 L xs s s.heap) (hbl : b0 < s.heap.size) (C1 : LCx l s dC dI a cs b ds o cO) (S0 : LSt s dC dI a cs b ds o cO σ τ f H locs) (h1 : vp_in (x4 + 1) L) (h2 : vp_in (x4 + 2) L) (h3 : vp_in (x4 + 3) L) (hl : lv_has ls 7 [(0, .ref b0), (1, .ref (a 0)), (2, .ref (b 0)), (3, .ref o), (4, .int x4)]) (hf : cells + 1 ≤ room_1.cells ∧ slots + 6 ≤ room_1.slots) (hp : ∃ (r : Int32) (σ' : SB) (τ' : SM), f_BlockRuler_at σ (xs (Int32.toNatClampNeg (x4 + 1))) = some (r, σ') ∧ f_Model_at τ (xs (Int32.toNatClampNeg (x4 + 1))) = some (r, τ') ∧ Rel σ' τ') (kk : ∀ (σ' : SB) (τ' : SM) (f' : Nat → Int64) (H : Heap) (locs : List Loc) (ls : Array Slot), Rel σ' τ' → LSt s dC dI a cs b ds o cO σ' τ' f' H locs → lv_has ls 7 [(0, .ref b0), (1, .ref (a 0)), (2, .ref (b 0)), (3, .ref o), (4, .int x4)] → W p l e room_1 s m #[Value.ref b0] below meth c H locs (cells + 1) (slots + 6) Q (F0 m 762 ls [])) : W p l e room_1 s m #[Value.ref b0] below meth c H locs cells slots Q (F0 m 434 ls []) := by
  obtain ⟨r, σ', τ', e1, e2, hR⟩ := hp
  refine lv_aload_n hx hb d_Law_law_434 rfl (lv_at hl 1 rfl) ?_
  refine lv_aload_n hx hb d_Law_law_435 rfl (lv_at hl 0 rfl) ?_
  refine lv_iload hx hb d_Law_law_436 (lv_at hl 4 rfl) ?_
  refine lv_iconst (v := 1) hx hb d_Law_law_438 (by decide) ?_
  refine lv_iadd hx hb d_Law_law_439 ?_
  refine va_sld hx hb hX hbl (A := fun q => s.heap.size ≤ q) (Nat.not_le.mpr hbl) S0.2.2.2.2.2 h1 d_Law_law_440 ?_
  refine lw_cB (As := [.int (xs (Int32.toNatClampNeg (x4 + 1)))]) (rest := []) (r := (r, σ')) hx hb hml hown hg C1 S0 (c_BlockRuler_at l dC dI a cs H.size σ (xs (Int32.toNatClampNeg (x4 + 1))) (r, σ') e1) (cwV 1 hg (gdV wl352 wl353 wl354 wd22 wl355) rfl rfl rfl (by decide +kernel) ⟨Nat.le_of_ble_eq_true rfl, Nat.le_of_ble_eq_true rfl⟩) rfl hl.1 rfl (Nat.le_of_ble_eq_true rfl) d_Law_law_441 ⟨Nat.le_of_succ_le hf.1, Nat.le_trans (Nat.le_add_right _ _) hf.2⟩ (fun H locs S0 => ?_)
  refine lv_aload_n hx hb d_Law_law_444 rfl (lv_at hl 2 rfl) ?_
  refine lv_aload_n hx hb d_Law_law_445 rfl (lv_at hl 0 rfl) ?_
  refine lv_iload hx hb d_Law_law_446 (lv_at hl 4 rfl) ?_
  refine lv_iconst (v := 1) hx hb d_Law_law_448 (by decide) ?_
  refine lv_iadd hx hb d_Law_law_449 ?_
  refine va_sld hx hb hX hbl (A := fun q => s.heap.size ≤ q) (Nat.not_le.mpr hbl) S0.2.2.2.2.2 h1 d_Law_law_450 ?_
  refine lw_cM (As := [.int (xs (Int32.toNatClampNeg (x4 + 1)))]) (rest := [.int r]) (r := (r, τ')) hx hb hml hown hg C1 S0 (c_Model_at l dC dI b ds H.size τ (xs (Int32.toNatClampNeg (x4 + 1))) (r, τ') e2) (cwV 1 hg (gdV wl356 wl357 wl358 wd215 wl359) rfl rfl rfl (by decide +kernel) ⟨Nat.le_of_ble_eq_true rfl, Nat.le_of_ble_eq_true rfl⟩) rfl hl.1 rfl (Nat.le_of_ble_eq_true rfl) d_Law_law_451 ⟨Nat.le_of_succ_le hf.1, Nat.le_trans (Nat.le_add_right _ _) hf.2⟩ (fun H locs S0 => ?_)
  refine lv_icmp_eq (tgt := 762) hx hb d_Law_law_454 (by decide) (fun _ => ?_) (fun cc => absurd rfl cc)
  refine W.widen (k := cells + 1) (n := slots + 6) (Nat.le_add_right _ _) (Nat.le_add_right _ _) ?_
  exact kk σ' τ' f H locs ls hR S0 hl
set_option maxHeartbeats 4000000 in
set_option maxRecDepth 100000 in
theorem law_parent (hx : p.tables.exec = Jvm.exec) (hb : c.code = code) (hml : c.maxLocals = 7) (hown : s.vm.findClass "BlockRulerLaw" = some m.cls) (hg : ∀ w ∈ G_, w.before #[Value.ref b0] s = true) (hX : va_X b0 L xs s s.heap) (hbl : b0 < s.heap.size) (C1 : LCx l s dC dI a cs b ds o cO) (S0 : LSt s dC dI a cs b ds o cO σ τ f H locs) (h1 : vp_in (x4 + 1) L) (h2 : vp_in (x4 + 2) L) (h3 : vp_in (x4 + 3) L) (hl : lv_has ls 7 [(0, .ref b0), (1, .ref (a 0)), (2, .ref (b 0)), (3, .ref o), (4, .int x4)]) (hf : cells + 1 ≤ room_1.cells ∧ slots + 6 ≤ room_1.slots) (hp : ∃ (r : Int32) (σ' : SB) (τ' : SM), f_BlockRuler_parent σ (xs (Int32.toNatClampNeg (x4 + 1))) = some (r, σ') ∧ f_Model_parent τ (xs (Int32.toNatClampNeg (x4 + 1))) = some (r, τ') ∧ Rel σ' τ') (kk : ∀ (σ' : SB) (τ' : SM) (f' : Nat → Int64) (H : Heap) (locs : List Loc) (ls : Array Slot), Rel σ' τ' → LSt s dC dI a cs b ds o cO σ' τ' f' H locs → lv_has ls 7 [(0, .ref b0), (1, .ref (a 0)), (2, .ref (b 0)), (3, .ref o), (4, .int x4)] → W p l e room_1 s m #[Value.ref b0] below meth c H locs (cells + 1) (slots + 6) Q (F0 m 762 ls [])) : W p l e room_1 s m #[Value.ref b0] below meth c H locs cells slots Q (F0 m 459 ls []) := by
  obtain ⟨r, σ', τ', e1, e2, hR⟩ := hp
  refine lv_aload_n hx hb d_Law_law_459 rfl (lv_at hl 1 rfl) ?_
  refine lv_aload_n hx hb d_Law_law_460 rfl (lv_at hl 0 rfl) ?_
  refine lv_iload hx hb d_Law_law_461 (lv_at hl 4 rfl) ?_
  refine lv_iconst (v := 1) hx hb d_Law_law_463 (by decide) ?_
  refine lv_iadd hx hb d_Law_law_464 ?_
  refine va_sld hx hb hX hbl (A := fun q => s.heap.size ≤ q) (Nat.not_le.mpr hbl) S0.2.2.2.2.2 h1 d_Law_law_465 ?_
  refine lw_cB (As := [.int (xs (Int32.toNatClampNeg (x4 + 1)))]) (rest := []) (r := (r, σ')) hx hb hml hown hg C1 S0 (c_BlockRuler_parent l dC dI a cs H.size σ (xs (Int32.toNatClampNeg (x4 + 1))) (r, σ') e1) (cwV 1 hg (gdV wl360 wl361 wl362 wd22 wl363) rfl rfl rfl (by decide +kernel) ⟨Nat.le_of_ble_eq_true rfl, Nat.le_of_ble_eq_true rfl⟩) rfl hl.1 rfl (Nat.le_of_ble_eq_true rfl) d_Law_law_466 ⟨Nat.le_of_succ_le hf.1, Nat.le_trans (Nat.le_add_right _ _) hf.2⟩ (fun H locs S0 => ?_)
  refine lv_aload_n hx hb d_Law_law_469 rfl (lv_at hl 2 rfl) ?_
  refine lv_aload_n hx hb d_Law_law_470 rfl (lv_at hl 0 rfl) ?_
  refine lv_iload hx hb d_Law_law_471 (lv_at hl 4 rfl) ?_
  refine lv_iconst (v := 1) hx hb d_Law_law_473 (by decide) ?_
  refine lv_iadd hx hb d_Law_law_474 ?_
  refine va_sld hx hb hX hbl (A := fun q => s.heap.size ≤ q) (Nat.not_le.mpr hbl) S0.2.2.2.2.2 h1 d_Law_law_475 ?_
  refine lw_cM (As := [.int (xs (Int32.toNatClampNeg (x4 + 1)))]) (rest := [.int r]) (r := (r, τ')) hx hb hml hown hg C1 S0 (c_Model_parent l dC dI b ds H.size τ (xs (Int32.toNatClampNeg (x4 + 1))) (r, τ') e2) (cwV 1 hg (gdV wl364 wl365 wl366 wd215 wl367) rfl rfl rfl (by decide +kernel) ⟨Nat.le_of_ble_eq_true rfl, Nat.le_of_ble_eq_true rfl⟩) rfl hl.1 rfl (Nat.le_of_ble_eq_true rfl) d_Law_law_476 ⟨Nat.le_of_succ_le hf.1, Nat.le_trans (Nat.le_add_right _ _) hf.2⟩ (fun H locs S0 => ?_)
  refine lv_icmp_eq (tgt := 762) hx hb d_Law_law_479 (by decide) (fun _ => ?_) (fun cc => absurd rfl cc)
  refine W.widen (k := cells + 1) (n := slots + 6) (Nat.le_add_right _ _) (Nat.le_add_right _ _) ?_
  exact kk σ' τ' f H locs ls hR S0 hl
set_option maxHeartbeats 4000000 in
set_option maxRecDepth 100000 in
theorem law_rules (hx : p.tables.exec = Jvm.exec) (hb : c.code = code) (hml : c.maxLocals = 7) (hown : s.vm.findClass "BlockRulerLaw" = some m.cls) (hg : ∀ w ∈ G_, w.before #[Value.ref b0] s = true) (hX : va_X b0 L xs s s.heap) (hbl : b0 < s.heap.size) (C1 : LCx l s dC dI a cs b ds o cO) (S0 : LSt s dC dI a cs b ds o cO σ τ f H locs) (h1 : vp_in (x4 + 1) L) (h2 : vp_in (x4 + 2) L) (h3 : vp_in (x4 + 3) L) (hl : lv_has ls 7 [(0, .ref b0), (1, .ref (a 0)), (2, .ref (b 0)), (3, .ref o), (4, .int x4)]) (hf : cells + 1 ≤ room_1.cells ∧ slots + 6 ≤ room_1.slots) (hp : ∃ (r : Int32) (σ' : SB) (τ' : SM), f_BlockRuler_rules σ (xs (Int32.toNatClampNeg (x4 + 1))) (xs (Int32.toNatClampNeg (x4 + 2))) = some (r, σ') ∧ f_Model_rules τ (xs (Int32.toNatClampNeg (x4 + 1))) (xs (Int32.toNatClampNeg (x4 + 2))) = some (r, τ') ∧ Rel σ' τ') (kk : ∀ (σ' : SB) (τ' : SM) (f' : Nat → Int64) (H : Heap) (locs : List Loc) (ls : Array Slot), Rel σ' τ' → LSt s dC dI a cs b ds o cO σ' τ' f' H locs → lv_has ls 7 [(0, .ref b0), (1, .ref (a 0)), (2, .ref (b 0)), (3, .ref o), (4, .int x4)] → W p l e room_1 s m #[Value.ref b0] below meth c H locs (cells + 1) (slots + 6) Q (F0 m 762 ls [])) : W p l e room_1 s m #[Value.ref b0] below meth c H locs cells slots Q (F0 m 484 ls []) := by
  obtain ⟨r, σ', τ', e1, e2, hR⟩ := hp
  refine lv_aload_n hx hb d_Law_law_484 rfl (lv_at hl 1 rfl) ?_
  refine lv_aload_n hx hb d_Law_law_485 rfl (lv_at hl 0 rfl) ?_
  refine lv_iload hx hb d_Law_law_486 (lv_at hl 4 rfl) ?_
  refine lv_iconst (v := 1) hx hb d_Law_law_488 (by decide) ?_
  refine lv_iadd hx hb d_Law_law_489 ?_
  refine va_sld hx hb hX hbl (A := fun q => s.heap.size ≤ q) (Nat.not_le.mpr hbl) S0.2.2.2.2.2 h1 d_Law_law_490 ?_
  refine lv_aload_n hx hb d_Law_law_491 rfl (lv_at hl 0 rfl) ?_
  refine lv_iload hx hb d_Law_law_492 (lv_at hl 4 rfl) ?_
  refine lv_iconst (v := 2) hx hb d_Law_law_494 (by decide) ?_
  refine lv_iadd hx hb d_Law_law_495 ?_
  refine va_sld hx hb hX hbl (A := fun q => s.heap.size ≤ q) (Nat.not_le.mpr hbl) S0.2.2.2.2.2 h2 d_Law_law_496 ?_
  refine lw_cB (As := [.int (xs (Int32.toNatClampNeg (x4 + 1))), .int (xs (Int32.toNatClampNeg (x4 + 2)))]) (rest := []) (r := (r, σ')) hx hb hml hown hg C1 S0 (c_BlockRuler_rules l dC dI a cs H.size σ (xs (Int32.toNatClampNeg (x4 + 1))) (xs (Int32.toNatClampNeg (x4 + 2))) (r, σ') e1) (cwV 2 hg (gdV wl368 wl369 wl370 wd22 wl371) rfl rfl rfl (by decide +kernel) ⟨Nat.le_of_ble_eq_true rfl, Nat.le_of_ble_eq_true rfl⟩) rfl hl.1 rfl (Nat.le_of_ble_eq_true rfl) d_Law_law_497 ⟨Nat.le_of_succ_le hf.1, Nat.le_trans (Nat.le_add_right _ _) hf.2⟩ (fun H locs S0 => ?_)
  refine lv_aload_n hx hb d_Law_law_500 rfl (lv_at hl 2 rfl) ?_
  refine lv_aload_n hx hb d_Law_law_501 rfl (lv_at hl 0 rfl) ?_
  refine lv_iload hx hb d_Law_law_502 (lv_at hl 4 rfl) ?_
  refine lv_iconst (v := 1) hx hb d_Law_law_504 (by decide) ?_
  refine lv_iadd hx hb d_Law_law_505 ?_
  refine va_sld hx hb hX hbl (A := fun q => s.heap.size ≤ q) (Nat.not_le.mpr hbl) S0.2.2.2.2.2 h1 d_Law_law_506 ?_
  refine lv_aload_n hx hb d_Law_law_507 rfl (lv_at hl 0 rfl) ?_
  refine lv_iload hx hb d_Law_law_508 (lv_at hl 4 rfl) ?_
  refine lv_iconst (v := 2) hx hb d_Law_law_510 (by decide) ?_
  refine lv_iadd hx hb d_Law_law_511 ?_
  refine va_sld hx hb hX hbl (A := fun q => s.heap.size ≤ q) (Nat.not_le.mpr hbl) S0.2.2.2.2.2 h2 d_Law_law_512 ?_
  refine lw_cM (As := [.int (xs (Int32.toNatClampNeg (x4 + 1))), .int (xs (Int32.toNatClampNeg (x4 + 2)))]) (rest := [.int r]) (r := (r, τ')) hx hb hml hown hg C1 S0 (c_Model_rules l dC dI b ds H.size τ (xs (Int32.toNatClampNeg (x4 + 1))) (xs (Int32.toNatClampNeg (x4 + 2))) (r, τ') e2) (cwV 2 hg (gdV wl372 wl373 wl374 wd215 wl375) rfl rfl rfl (by decide +kernel) ⟨Nat.le_of_ble_eq_true rfl, Nat.le_of_ble_eq_true rfl⟩) rfl hl.1 rfl (Nat.le_of_ble_eq_true rfl) d_Law_law_513 ⟨Nat.le_of_succ_le hf.1, Nat.le_trans (Nat.le_add_right _ _) hf.2⟩ (fun H locs S0 => ?_)
  refine lv_icmp_eq (tgt := 762) hx hb d_Law_law_516 (by decide) (fun _ => ?_) (fun cc => absurd rfl cc)
  refine W.widen (k := cells + 1) (n := slots + 6) (Nat.le_add_right _ _) (Nat.le_add_right _ _) ?_
  exact kk σ' τ' f H locs ls hR S0 hl
set_option maxHeartbeats 4000000 in
set_option maxRecDepth 100000 in
theorem law_common (hx : p.tables.exec = Jvm.exec) (hb : c.code = code) (hml : c.maxLocals = 7) (hown : s.vm.findClass "BlockRulerLaw" = some m.cls) (hg : ∀ w ∈ G_, w.before #[Value.ref b0] s = true) (hX : va_X b0 L xs s s.heap) (hbl : b0 < s.heap.size) (C1 : LCx l s dC dI a cs b ds o cO) (S0 : LSt s dC dI a cs b ds o cO σ τ f H locs) (h1 : vp_in (x4 + 1) L) (h2 : vp_in (x4 + 2) L) (h3 : vp_in (x4 + 3) L) (hl : lv_has ls 7 [(0, .ref b0), (1, .ref (a 0)), (2, .ref (b 0)), (3, .ref o), (4, .int x4)]) (hf : cells + 1 ≤ room_1.cells ∧ slots + 6 ≤ room_1.slots) (hp : ∃ (r : Int32) (τ' : SM), f_Model_common τ (xs (Int32.toNatClampNeg (x4 + 1))) (xs (Int32.toNatClampNeg (x4 + 2))) = some (r, τ') ∧ ((∃ σ' : SB, f_BlockRuler_common σ (xs (Int32.toNatClampNeg (x4 + 1))) (xs (Int32.toNatClampNeg (x4 + 2))) = some (Sum.inr r, σ') ∧ sM_thrown τ' = 0 ∧ Rel σ' τ') ∨ (∃ σ' : SB, f_BlockRuler_common σ (xs (Int32.toNatClampNeg (x4 + 1))) (xs (Int32.toNatClampNeg (x4 + 2))) = some (Sum.inl 1, σ') ∧ sM_thrown τ' = 1 ∧ Rel σ' τ'))) (kk : ∀ (σ' : SB) (τ' : SM) (f' : Nat → Int64) (H : Heap) (locs : List Loc) (ls : Array Slot), Rel σ' τ' → LSt s dC dI a cs b ds o cO σ' τ' f' H locs → lv_has ls 7 [(0, .ref b0), (1, .ref (a 0)), (2, .ref (b 0)), (3, .ref o), (4, .int x4)] → W p l e room_1 s m #[Value.ref b0] below meth c H locs (cells + 1) (slots + 6) Q (F0 m 762 ls [])) : W p l e room_1 s m #[Value.ref b0] below meth c H locs cells slots Q (F0 m 521 ls []) := by
  obtain ⟨r, τ', e2, hp⟩ := hp
  refine lv_aload_n hx hb d_Law_law_521 rfl (lv_at hl 1 rfl) ?_
  refine lv_aload_n hx hb d_Law_law_522 rfl (lv_at hl 0 rfl) ?_
  refine lv_iload hx hb d_Law_law_523 (lv_at hl 4 rfl) ?_
  refine lv_iconst (v := 1) hx hb d_Law_law_525 (by decide) ?_
  refine lv_iadd hx hb d_Law_law_526 ?_
  refine va_sld hx hb hX hbl (A := fun q => s.heap.size ≤ q) (Nat.not_le.mpr hbl) S0.2.2.2.2.2 h1 d_Law_law_527 ?_
  refine lv_aload_n hx hb d_Law_law_528 rfl (lv_at hl 0 rfl) ?_
  refine lv_iload hx hb d_Law_law_529 (lv_at hl 4 rfl) ?_
  refine lv_iconst (v := 2) hx hb d_Law_law_531 (by decide) ?_
  refine lv_iadd hx hb d_Law_law_532 ?_
  refine va_sld hx hb hX hbl (A := fun q => s.heap.size ≤ q) (Nat.not_le.mpr hbl) S0.2.2.2.2.2 h2 d_Law_law_533 ?_
  refine lv_aload_n hx hb d_Law_law_534 rfl (lv_at hl 3 rfl) ?_
  rcases hp with ⟨σ', e1, ht, hR⟩ | ⟨σ', e1, ht, hR⟩
  · refine lw_cH (n := 4) (As := [.ref (a 0), .int (xs (Int32.toNatClampNeg (x4 + 1))), .int (xs (Int32.toNatClampNeg (x4 + 2))), .ref o]) (rest := []) (rv := 0) (r := (σ', (vp_updL f 0 (Int32.toInt64 r)))) hx hb hml hown hg C1 S0 (cH_common_ret l C1.1 dC dI a cs s.heap.size H.size S0.2.2.2.2.2.1 C1.2.2.2.2.2.2.2.2.2.2.1 o cO f C1.2.2.2.2.2.2.2.2.1 σ (xs (Int32.toNatClampNeg (x4 + 1))) (xs (Int32.toNatClampNeg (x4 + 2))) (r, σ') e1) rfl wl376 rfl rfl wl377 wl378 wl306 (by decide +kernel) (by decide +kernel) ⟨Nat.le_of_ble_eq_true rfl, Nat.le_of_ble_eq_true rfl⟩ rfl hl.1 rfl (Nat.le_of_ble_eq_true rfl) d_Law_law_535 ⟨Nat.le_of_succ_le hf.1, Nat.le_trans (Nat.le_add_right _ _) hf.2⟩ (fun H locs S0 => ?_)
    refine W.widen (k := cells + 1) (n := slots + 6) (by omega) (by omega) ?_
    refine lv_istore (lv' := [(5, .int 0), (0, .ref b0), (1, .ref (a 0)), (2, .ref (b 0)), (3, .ref o), (4, .int x4)]) hx hb d_Law_law_538 hl (by decide) rfl (fun ls hl => ?_)
    refine lv_aload_n hx hb d_Law_law_540 rfl (lv_at hl 3 rfl) ?_
    refine lv_aload_n hx hb d_Law_law_541 rfl (lv_at hl 1 rfl) ?_
    refine lv_iload hx hb d_Law_law_542 (lv_at hl 5 rfl) ?_
    refine lv_iconst (v := 1) hx hb d_Law_law_544 (by decide) ?_
    refine lv_iadd hx hb d_Law_law_545 ?_
    refine va_sld hx hb hX hbl (A := fun q => s.heap.size ≤ q) (Nat.not_le.mpr hbl) S0.2.2.2.2.2 h1 d_Law_law_546 ?_
    refine lv_aload_n hx hb d_Law_law_547 rfl (lv_at hl 1 rfl) ?_
    refine lv_iload hx hb d_Law_law_548 (lv_at hl 5 rfl) ?_
    refine lv_iconst (v := 2) hx hb d_Law_law_550 (by decide) ?_
    refine lv_iadd hx hb d_Law_law_551 ?_
    refine va_sld hx hb hX hbl (A := fun q => s.heap.size ≤ q) (Nat.not_le.mpr hbl) S0.2.2.2.2.2 h2 d_Law_law_552 ?_
    refine lw_cM (As := [.int (xs (Int32.toNatClampNeg (x4 + 1))), .int (xs (Int32.toNatClampNeg (x4 + 2)))]) (rest := []) (r := (r, τ')) hx hb hml hown hg C1 S0 (c_Model_common l dC dI b ds H.size τ (xs (Int32.toNatClampNeg (x4 + 1))) (xs (Int32.toNatClampNeg (x4 + 2))) (r, τ') e2) (cwV 2 hg (gdV wl379 wl380 wl381 wd215 wl382) rfl rfl rfl (by decide +kernel) ⟨Nat.le_of_ble_eq_true rfl, Nat.le_of_ble_eq_true rfl⟩) rfl hl.1 rfl (Nat.le_of_ble_eq_true rfl) d_Law_law_553 hf (fun H locs S0 => ?_)
    refine lv_istore (lv' := [(6, .int r), (5, .int 0), (0, .ref b0), (1, .ref (a 0)), (2, .ref (b 0)), (3, .ref o), (4, .int x4)]) hx hb d_Law_law_556 hl (by decide) rfl (fun ls hl => ?_)
    refine lv_aload_n hx hb d_Law_law_558 rfl (lv_at hl 4 rfl) ?_
    refine lw_rM (As := []) (rest := []) hx hb hml hown hg C1 S0 (c_Model_thrown l dC dI b ds τ' 0 (by unfold f_Model_thrown; exact ht)) (cwV 0 hg (gdV wl311 wl312 wl313 wd215 wl314) rfl rfl rfl (by decide +kernel) ⟨Nat.le_of_ble_eq_true rfl, Nat.le_of_ble_eq_true rfl⟩) rfl hl.1 rfl (Nat.le_of_ble_eq_true rfl) d_Law_law_559 hf ?_
    refine lv_iload hx hb d_Law_law_562 (lv_at hl 1 rfl) ?_
    refine lv_icmp_eq (tgt := 569) hx hb d_Law_law_564 (by decide) (fun _ => ?_) (fun cc => absurd rfl cc)
    refine lv_iload hx hb d_Law_law_569 (lv_at hl 1 rfl) ?_
    refine lv_if_ne (tgt := 586) hx hb d_Law_law_571 (by decide) (fun cc => absurd rfl cc) (fun _ => ?_)
    refine lv_aload_n hx hb d_Law_law_574 rfl (lv_at hl 5 rfl) ?_
    refine lv_iconst (v := 0) hx hb d_Law_law_575 (by decide) ?_
    refine va_lald (f := (vp_updL f 0 (Int32.toInt64 r))) (n := 1) hx hb C1.2.2.2.1 S0.2.2.2.2.1 0 0 rfl rfl vin01 d_Law_law_576 ?_
    refine lv_iload hx hb d_Law_law_577 (lv_at hl 0 rfl) ?_
    refine lv_i2l (v := Int32.toInt64 r) hx hb d_Law_law_579 rfl ?_
    refine W.lcmp hx hb d_Law_law_580 ?_
    refine lv_if_eq (tgt := 586) hx hb d_Law_law_581 (by decide) (fun _ => ?_) (fun cc => absurd (lg_same f r) cc)
    refine lv_goto (tgt := 762) hx hb d_Law_law_586 (by decide) ?_
    exact kk σ' τ' (vp_updL f 0 (Int32.toInt64 r)) H locs ls hR S0 (lv_sub hl [2, 3, 4, 5, 6] rfl)
  · refine lw_cH (n := 4) (As := [.ref (a 0), .int (xs (Int32.toNatClampNeg (x4 + 1))), .int (xs (Int32.toNatClampNeg (x4 + 2))), .ref o]) (rest := []) (rv := 1) (r := (σ', f)) hx hb hml hown hg C1 S0 (cH_common_IAE l C1.1 dC dI a cs s.heap.size H.size S0.2.2.2.2.2.1 C1.2.2.2.2.2.2.2.2.2.2.1 o cO f C1.2.2.2.2.2.2.2.2.1 σ (xs (Int32.toNatClampNeg (x4 + 1))) (xs (Int32.toNatClampNeg (x4 + 2))) σ' e1) rfl wl376 rfl rfl wl377 wl378 wl306 (by decide +kernel) (by decide +kernel) ⟨Nat.le_of_ble_eq_true rfl, Nat.le_of_ble_eq_true rfl⟩ rfl hl.1 rfl (Nat.le_of_ble_eq_true rfl) d_Law_law_535 hf (fun H locs S0 => ?_)
    refine W.widen (k := cells + 1) (n := slots + 6) (by omega) (by omega) ?_
    refine lv_istore (lv' := [(5, .int 1), (0, .ref b0), (1, .ref (a 0)), (2, .ref (b 0)), (3, .ref o), (4, .int x4)]) hx hb d_Law_law_538 hl (by decide) rfl (fun ls hl => ?_)
    refine lv_aload_n hx hb d_Law_law_540 rfl (lv_at hl 3 rfl) ?_
    refine lv_aload_n hx hb d_Law_law_541 rfl (lv_at hl 1 rfl) ?_
    refine lv_iload hx hb d_Law_law_542 (lv_at hl 5 rfl) ?_
    refine lv_iconst (v := 1) hx hb d_Law_law_544 (by decide) ?_
    refine lv_iadd hx hb d_Law_law_545 ?_
    refine va_sld hx hb hX hbl (A := fun q => s.heap.size ≤ q) (Nat.not_le.mpr hbl) S0.2.2.2.2.2 h1 d_Law_law_546 ?_
    refine lv_aload_n hx hb d_Law_law_547 rfl (lv_at hl 1 rfl) ?_
    refine lv_iload hx hb d_Law_law_548 (lv_at hl 5 rfl) ?_
    refine lv_iconst (v := 2) hx hb d_Law_law_550 (by decide) ?_
    refine lv_iadd hx hb d_Law_law_551 ?_
    refine va_sld hx hb hX hbl (A := fun q => s.heap.size ≤ q) (Nat.not_le.mpr hbl) S0.2.2.2.2.2 h2 d_Law_law_552 ?_
    refine lw_cM (As := [.int (xs (Int32.toNatClampNeg (x4 + 1))), .int (xs (Int32.toNatClampNeg (x4 + 2)))]) (rest := []) (r := (r, τ')) hx hb hml hown hg C1 S0 (c_Model_common l dC dI b ds H.size τ (xs (Int32.toNatClampNeg (x4 + 1))) (xs (Int32.toNatClampNeg (x4 + 2))) (r, τ') e2) (cwV 2 hg (gdV wl379 wl380 wl381 wd215 wl382) rfl rfl rfl (by decide +kernel) ⟨Nat.le_of_ble_eq_true rfl, Nat.le_of_ble_eq_true rfl⟩) rfl hl.1 rfl (Nat.le_of_ble_eq_true rfl) d_Law_law_553 hf (fun H locs S0 => ?_)
    refine lv_istore (lv' := [(6, .int r), (5, .int 1), (0, .ref b0), (1, .ref (a 0)), (2, .ref (b 0)), (3, .ref o), (4, .int x4)]) hx hb d_Law_law_556 hl (by decide) rfl (fun ls hl => ?_)
    refine lv_aload_n hx hb d_Law_law_558 rfl (lv_at hl 4 rfl) ?_
    refine lw_rM (As := []) (rest := []) hx hb hml hown hg C1 S0 (c_Model_thrown l dC dI b ds τ' 1 (by unfold f_Model_thrown; exact ht)) (cwV 0 hg (gdV wl311 wl312 wl313 wd215 wl314) rfl rfl rfl (by decide +kernel) ⟨Nat.le_of_ble_eq_true rfl, Nat.le_of_ble_eq_true rfl⟩) rfl hl.1 rfl (Nat.le_of_ble_eq_true rfl) d_Law_law_559 hf ?_
    refine lv_iload hx hb d_Law_law_562 (lv_at hl 1 rfl) ?_
    refine lv_icmp_eq (tgt := 569) hx hb d_Law_law_564 (by decide) (fun _ => ?_) (fun cc => absurd rfl cc)
    refine lv_iload hx hb d_Law_law_569 (lv_at hl 1 rfl) ?_
    refine lv_if_ne (tgt := 586) hx hb d_Law_law_571 (by decide) (fun _ => ?_) (fun cc => absurd cc (by decide))
    refine lv_goto (tgt := 762) hx hb d_Law_law_586 (by decide) ?_
    exact kk σ' τ' f H locs ls hR S0 (lv_sub hl [2, 3, 4, 5, 6] rfl)
set_option maxHeartbeats 4000000 in
set_option maxRecDepth 100000 in
theorem law_sort (hx : p.tables.exec = Jvm.exec) (hb : c.code = code) (hml : c.maxLocals = 7) (hown : s.vm.findClass "BlockRulerLaw" = some m.cls) (hg : ∀ w ∈ G_, w.before #[Value.ref b0] s = true) (hX : va_X b0 L xs s s.heap) (hbl : b0 < s.heap.size) (C1 : LCx l s dC dI a cs b ds o cO) (S0 : LSt s dC dI a cs b ds o cO σ τ f H locs) (h1 : vp_in (x4 + 1) L) (h2 : vp_in (x4 + 2) L) (h3 : vp_in (x4 + 3) L) (hl : lv_has ls 7 [(0, .ref b0), (1, .ref (a 0)), (2, .ref (b 0)), (3, .ref o), (4, .int x4)]) (hf : cells + 1 ≤ room_1.cells ∧ slots + 6 ≤ room_1.slots) (hp : ∃ (r : Int32) (σ' : SB) (τ' : SM), f_BlockRuler_sort σ (xs (Int32.toNatClampNeg (x4 + 1))) (xs (Int32.toNatClampNeg (x4 + 2))) = some (r, σ') ∧ f_Model_sort τ (xs (Int32.toNatClampNeg (x4 + 1))) (xs (Int32.toNatClampNeg (x4 + 2))) = some (r, τ') ∧ Rel σ' τ') (kk : ∀ (σ' : SB) (τ' : SM) (f' : Nat → Int64) (H : Heap) (locs : List Loc) (ls : Array Slot), Rel σ' τ' → LSt s dC dI a cs b ds o cO σ' τ' f' H locs → lv_has ls 7 [(0, .ref b0), (1, .ref (a 0)), (2, .ref (b 0)), (3, .ref o), (4, .int x4)] → W p l e room_1 s m #[Value.ref b0] below meth c H locs (cells + 1) (slots + 6) Q (F0 m 762 ls [])) : W p l e room_1 s m #[Value.ref b0] below meth c H locs cells slots Q (F0 m 589 ls []) := by
  obtain ⟨r, σ', τ', e1, e2, hR⟩ := hp
  refine lv_aload_n hx hb d_Law_law_589 rfl (lv_at hl 1 rfl) ?_
  refine lv_aload_n hx hb d_Law_law_590 rfl (lv_at hl 0 rfl) ?_
  refine lv_iload hx hb d_Law_law_591 (lv_at hl 4 rfl) ?_
  refine lv_iconst (v := 1) hx hb d_Law_law_593 (by decide) ?_
  refine lv_iadd hx hb d_Law_law_594 ?_
  refine va_sld hx hb hX hbl (A := fun q => s.heap.size ≤ q) (Nat.not_le.mpr hbl) S0.2.2.2.2.2 h1 d_Law_law_595 ?_
  refine lv_aload_n hx hb d_Law_law_596 rfl (lv_at hl 0 rfl) ?_
  refine lv_iload hx hb d_Law_law_597 (lv_at hl 4 rfl) ?_
  refine lv_iconst (v := 2) hx hb d_Law_law_599 (by decide) ?_
  refine lv_iadd hx hb d_Law_law_600 ?_
  refine va_sld hx hb hX hbl (A := fun q => s.heap.size ≤ q) (Nat.not_le.mpr hbl) S0.2.2.2.2.2 h2 d_Law_law_601 ?_
  refine lw_cB (As := [.int (xs (Int32.toNatClampNeg (x4 + 1))), .int (xs (Int32.toNatClampNeg (x4 + 2)))]) (rest := []) (r := (r, σ')) hx hb hml hown hg C1 S0 (c_BlockRuler_sort l dC dI a cs H.size σ (xs (Int32.toNatClampNeg (x4 + 1))) (xs (Int32.toNatClampNeg (x4 + 2))) (r, σ') e1) (cwV 2 hg (gdV wl383 wl384 wl385 wd22 wl386) rfl rfl rfl (by decide +kernel) ⟨Nat.le_of_ble_eq_true rfl, Nat.le_of_ble_eq_true rfl⟩) rfl hl.1 rfl (Nat.le_of_ble_eq_true rfl) d_Law_law_602 ⟨Nat.le_of_succ_le hf.1, Nat.le_trans (Nat.le_add_right _ _) hf.2⟩ (fun H locs S0 => ?_)
  refine lv_aload_n hx hb d_Law_law_605 rfl (lv_at hl 2 rfl) ?_
  refine lv_aload_n hx hb d_Law_law_606 rfl (lv_at hl 0 rfl) ?_
  refine lv_iload hx hb d_Law_law_607 (lv_at hl 4 rfl) ?_
  refine lv_iconst (v := 1) hx hb d_Law_law_609 (by decide) ?_
  refine lv_iadd hx hb d_Law_law_610 ?_
  refine va_sld hx hb hX hbl (A := fun q => s.heap.size ≤ q) (Nat.not_le.mpr hbl) S0.2.2.2.2.2 h1 d_Law_law_611 ?_
  refine lv_aload_n hx hb d_Law_law_612 rfl (lv_at hl 0 rfl) ?_
  refine lv_iload hx hb d_Law_law_613 (lv_at hl 4 rfl) ?_
  refine lv_iconst (v := 2) hx hb d_Law_law_615 (by decide) ?_
  refine lv_iadd hx hb d_Law_law_616 ?_
  refine va_sld hx hb hX hbl (A := fun q => s.heap.size ≤ q) (Nat.not_le.mpr hbl) S0.2.2.2.2.2 h2 d_Law_law_617 ?_
  refine lw_cM (As := [.int (xs (Int32.toNatClampNeg (x4 + 1))), .int (xs (Int32.toNatClampNeg (x4 + 2)))]) (rest := [.int r]) (r := (r, τ')) hx hb hml hown hg C1 S0 (c_Model_sort l dC dI b ds H.size τ (xs (Int32.toNatClampNeg (x4 + 1))) (xs (Int32.toNatClampNeg (x4 + 2))) (r, τ') e2) (cwV 2 hg (gdV wl387 wl388 wl389 wd215 wl390) rfl rfl rfl (by decide +kernel) ⟨Nat.le_of_ble_eq_true rfl, Nat.le_of_ble_eq_true rfl⟩) rfl hl.1 rfl (Nat.le_of_ble_eq_true rfl) d_Law_law_618 ⟨Nat.le_of_succ_le hf.1, Nat.le_trans (Nat.le_add_right _ _) hf.2⟩ (fun H locs S0 => ?_)
  refine lv_icmp_eq (tgt := 762) hx hb d_Law_law_621 (by decide) (fun _ => ?_) (fun cc => absurd rfl cc)
  refine W.widen (k := cells + 1) (n := slots + 6) (Nat.le_add_right _ _) (Nat.le_add_right _ _) ?_
  exact kk σ' τ' f H locs ls hR S0 hl
set_option maxHeartbeats 4000000 in
set_option maxRecDepth 100000 in
theorem law_inLoop (hx : p.tables.exec = Jvm.exec) (hb : c.code = code) (hml : c.maxLocals = 7) (hown : s.vm.findClass "BlockRulerLaw" = some m.cls) (hg : ∀ w ∈ G_, w.before #[Value.ref b0] s = true) (hX : va_X b0 L xs s s.heap) (hbl : b0 < s.heap.size) (C1 : LCx l s dC dI a cs b ds o cO) (S0 : LSt s dC dI a cs b ds o cO σ τ f H locs) (h1 : vp_in (x4 + 1) L) (h2 : vp_in (x4 + 2) L) (h3 : vp_in (x4 + 3) L) (hl : lv_has ls 7 [(0, .ref b0), (1, .ref (a 0)), (2, .ref (b 0)), (3, .ref o), (4, .int x4)]) (hf : cells + 1 ≤ room_1.cells ∧ slots + 6 ≤ room_1.slots) (hp : ∃ (r : Int32) (σ' : SB) (τ' : SM), f_BlockRuler_inLoop σ (xs (Int32.toNatClampNeg (x4 + 1))) (xs (Int32.toNatClampNeg (x4 + 2))) = some (r, σ') ∧ f_Model_inLoop τ (xs (Int32.toNatClampNeg (x4 + 1))) (xs (Int32.toNatClampNeg (x4 + 2))) = some (r, τ') ∧ Rel σ' τ') (kk : ∀ (σ' : SB) (τ' : SM) (f' : Nat → Int64) (H : Heap) (locs : List Loc) (ls : Array Slot), Rel σ' τ' → LSt s dC dI a cs b ds o cO σ' τ' f' H locs → lv_has ls 7 [(0, .ref b0), (1, .ref (a 0)), (2, .ref (b 0)), (3, .ref o), (4, .int x4)] → W p l e room_1 s m #[Value.ref b0] below meth c H locs (cells + 1) (slots + 6) Q (F0 m 762 ls [])) : W p l e room_1 s m #[Value.ref b0] below meth c H locs cells slots Q (F0 m 626 ls []) := by
  obtain ⟨r, σ', τ', e1, e2, hR⟩ := hp
  refine lv_aload_n hx hb d_Law_law_626 rfl (lv_at hl 1 rfl) ?_
  refine lv_aload_n hx hb d_Law_law_627 rfl (lv_at hl 0 rfl) ?_
  refine lv_iload hx hb d_Law_law_628 (lv_at hl 4 rfl) ?_
  refine lv_iconst (v := 1) hx hb d_Law_law_630 (by decide) ?_
  refine lv_iadd hx hb d_Law_law_631 ?_
  refine va_sld hx hb hX hbl (A := fun q => s.heap.size ≤ q) (Nat.not_le.mpr hbl) S0.2.2.2.2.2 h1 d_Law_law_632 ?_
  refine lv_aload_n hx hb d_Law_law_633 rfl (lv_at hl 0 rfl) ?_
  refine lv_iload hx hb d_Law_law_634 (lv_at hl 4 rfl) ?_
  refine lv_iconst (v := 2) hx hb d_Law_law_636 (by decide) ?_
  refine lv_iadd hx hb d_Law_law_637 ?_
  refine va_sld hx hb hX hbl (A := fun q => s.heap.size ≤ q) (Nat.not_le.mpr hbl) S0.2.2.2.2.2 h2 d_Law_law_638 ?_
  refine lw_cB (As := [.int (xs (Int32.toNatClampNeg (x4 + 1))), .int (xs (Int32.toNatClampNeg (x4 + 2)))]) (rest := []) (r := (r, σ')) hx hb hml hown hg C1 S0 (c_BlockRuler_inLoop l dC dI a cs H.size σ (xs (Int32.toNatClampNeg (x4 + 1))) (xs (Int32.toNatClampNeg (x4 + 2))) (r, σ') e1) (cwV 2 hg (gdV wl391 wl392 wl393 wd22 wl394) rfl rfl rfl (by decide +kernel) ⟨Nat.le_of_ble_eq_true rfl, Nat.le_of_ble_eq_true rfl⟩) rfl hl.1 rfl (Nat.le_of_ble_eq_true rfl) d_Law_law_639 ⟨Nat.le_of_succ_le hf.1, Nat.le_trans (Nat.le_add_right _ _) hf.2⟩ (fun H locs S0 => ?_)
  refine lv_aload_n hx hb d_Law_law_642 rfl (lv_at hl 2 rfl) ?_
  refine lv_aload_n hx hb d_Law_law_643 rfl (lv_at hl 0 rfl) ?_
  refine lv_iload hx hb d_Law_law_644 (lv_at hl 4 rfl) ?_
  refine lv_iconst (v := 1) hx hb d_Law_law_646 (by decide) ?_
  refine lv_iadd hx hb d_Law_law_647 ?_
  refine va_sld hx hb hX hbl (A := fun q => s.heap.size ≤ q) (Nat.not_le.mpr hbl) S0.2.2.2.2.2 h1 d_Law_law_648 ?_
  refine lv_aload_n hx hb d_Law_law_649 rfl (lv_at hl 0 rfl) ?_
  refine lv_iload hx hb d_Law_law_650 (lv_at hl 4 rfl) ?_
  refine lv_iconst (v := 2) hx hb d_Law_law_652 (by decide) ?_
  refine lv_iadd hx hb d_Law_law_653 ?_
  refine va_sld hx hb hX hbl (A := fun q => s.heap.size ≤ q) (Nat.not_le.mpr hbl) S0.2.2.2.2.2 h2 d_Law_law_654 ?_
  refine lw_cM (As := [.int (xs (Int32.toNatClampNeg (x4 + 1))), .int (xs (Int32.toNatClampNeg (x4 + 2)))]) (rest := [.int r]) (r := (r, τ')) hx hb hml hown hg C1 S0 (c_Model_inLoop l dC dI b ds H.size τ (xs (Int32.toNatClampNeg (x4 + 1))) (xs (Int32.toNatClampNeg (x4 + 2))) (r, τ') e2) (cwV 2 hg (gdV wl395 wl396 wl397 wd215 wl398) rfl rfl rfl (by decide +kernel) ⟨Nat.le_of_ble_eq_true rfl, Nat.le_of_ble_eq_true rfl⟩) rfl hl.1 rfl (Nat.le_of_ble_eq_true rfl) d_Law_law_655 ⟨Nat.le_of_succ_le hf.1, Nat.le_trans (Nat.le_add_right _ _) hf.2⟩ (fun H locs S0 => ?_)
  refine lv_icmp_eq (tgt := 762) hx hb d_Law_law_658 (by decide) (fun _ => ?_) (fun cc => absurd rfl cc)
  refine W.widen (k := cells + 1) (n := slots + 6) (Nat.le_add_right _ _) (Nat.le_add_right _ _) ?_
  exact kk σ' τ' f H locs ls hR S0 hl
set_option maxHeartbeats 4000000 in
set_option maxRecDepth 100000 in
theorem law_look (hx : p.tables.exec = Jvm.exec) (hb : c.code = code) (hml : c.maxLocals = 7) (hown : s.vm.findClass "BlockRulerLaw" = some m.cls) (hg : ∀ w ∈ G_, w.before #[Value.ref b0] s = true) (hX : va_X b0 L xs s s.heap) (hbl : b0 < s.heap.size) (C1 : LCx l s dC dI a cs b ds o cO) (S0 : LSt s dC dI a cs b ds o cO σ τ f H locs) (h1 : vp_in (x4 + 1) L) (h2 : vp_in (x4 + 2) L) (h3 : vp_in (x4 + 3) L) (hl : lv_has ls 7 [(0, .ref b0), (1, .ref (a 0)), (2, .ref (b 0)), (3, .ref o), (4, .int x4)]) (hf : cells + 1 ≤ room_1.cells ∧ slots + 6 ≤ room_1.slots) (hp : ∃ (r : Int32) (σ' : SB) (τ' : SM), f_BlockRuler_look σ (xs (Int32.toNatClampNeg (x4 + 1))) (xs (Int32.toNatClampNeg (x4 + 2))) = some (r, σ') ∧ f_Model_look τ (xs (Int32.toNatClampNeg (x4 + 1))) (xs (Int32.toNatClampNeg (x4 + 2))) = some (r, τ') ∧ Rel σ' τ') (kk : ∀ (σ' : SB) (τ' : SM) (f' : Nat → Int64) (H : Heap) (locs : List Loc) (ls : Array Slot), Rel σ' τ' → LSt s dC dI a cs b ds o cO σ' τ' f' H locs → lv_has ls 7 [(0, .ref b0), (1, .ref (a 0)), (2, .ref (b 0)), (3, .ref o), (4, .int x4)] → W p l e room_1 s m #[Value.ref b0] below meth c H locs (cells + 1) (slots + 6) Q (F0 m 762 ls [])) : W p l e room_1 s m #[Value.ref b0] below meth c H locs cells slots Q (F0 m 663 ls []) := by
  obtain ⟨r, σ', τ', e1, e2, hR⟩ := hp
  refine lv_aload_n hx hb d_Law_law_663 rfl (lv_at hl 1 rfl) ?_
  refine lv_aload_n hx hb d_Law_law_664 rfl (lv_at hl 0 rfl) ?_
  refine lv_iload hx hb d_Law_law_665 (lv_at hl 4 rfl) ?_
  refine lv_iconst (v := 1) hx hb d_Law_law_667 (by decide) ?_
  refine lv_iadd hx hb d_Law_law_668 ?_
  refine va_sld hx hb hX hbl (A := fun q => s.heap.size ≤ q) (Nat.not_le.mpr hbl) S0.2.2.2.2.2 h1 d_Law_law_669 ?_
  refine lv_aload_n hx hb d_Law_law_670 rfl (lv_at hl 0 rfl) ?_
  refine lv_iload hx hb d_Law_law_671 (lv_at hl 4 rfl) ?_
  refine lv_iconst (v := 2) hx hb d_Law_law_673 (by decide) ?_
  refine lv_iadd hx hb d_Law_law_674 ?_
  refine va_sld hx hb hX hbl (A := fun q => s.heap.size ≤ q) (Nat.not_le.mpr hbl) S0.2.2.2.2.2 h2 d_Law_law_675 ?_
  refine lw_cB (As := [.int (xs (Int32.toNatClampNeg (x4 + 1))), .int (xs (Int32.toNatClampNeg (x4 + 2)))]) (rest := []) (r := (r, σ')) hx hb hml hown hg C1 S0 (c_BlockRuler_look l dC dI a cs H.size σ (xs (Int32.toNatClampNeg (x4 + 1))) (xs (Int32.toNatClampNeg (x4 + 2))) (r, σ') e1) (cwV 2 hg (gdV wl399 wl400 wl401 wd22 wl402) rfl rfl rfl (by decide +kernel) ⟨Nat.le_of_ble_eq_true rfl, Nat.le_of_ble_eq_true rfl⟩) rfl hl.1 rfl (Nat.le_of_ble_eq_true rfl) d_Law_law_676 ⟨Nat.le_of_succ_le hf.1, Nat.le_trans (Nat.le_add_right _ _) hf.2⟩ (fun H locs S0 => ?_)
  refine lv_aload_n hx hb d_Law_law_679 rfl (lv_at hl 2 rfl) ?_
  refine lv_aload_n hx hb d_Law_law_680 rfl (lv_at hl 0 rfl) ?_
  refine lv_iload hx hb d_Law_law_681 (lv_at hl 4 rfl) ?_
  refine lv_iconst (v := 1) hx hb d_Law_law_683 (by decide) ?_
  refine lv_iadd hx hb d_Law_law_684 ?_
  refine va_sld hx hb hX hbl (A := fun q => s.heap.size ≤ q) (Nat.not_le.mpr hbl) S0.2.2.2.2.2 h1 d_Law_law_685 ?_
  refine lv_aload_n hx hb d_Law_law_686 rfl (lv_at hl 0 rfl) ?_
  refine lv_iload hx hb d_Law_law_687 (lv_at hl 4 rfl) ?_
  refine lv_iconst (v := 2) hx hb d_Law_law_689 (by decide) ?_
  refine lv_iadd hx hb d_Law_law_690 ?_
  refine va_sld hx hb hX hbl (A := fun q => s.heap.size ≤ q) (Nat.not_le.mpr hbl) S0.2.2.2.2.2 h2 d_Law_law_691 ?_
  refine lw_cM (As := [.int (xs (Int32.toNatClampNeg (x4 + 1))), .int (xs (Int32.toNatClampNeg (x4 + 2)))]) (rest := [.int r]) (r := (r, τ')) hx hb hml hown hg C1 S0 (c_Model_look l dC dI b ds H.size τ (xs (Int32.toNatClampNeg (x4 + 1))) (xs (Int32.toNatClampNeg (x4 + 2))) (r, τ') e2) (cwV 2 hg (gdV wl403 wl404 wl405 wd215 wl406) rfl rfl rfl (by decide +kernel) ⟨Nat.le_of_ble_eq_true rfl, Nat.le_of_ble_eq_true rfl⟩) rfl hl.1 rfl (Nat.le_of_ble_eq_true rfl) d_Law_law_692 ⟨Nat.le_of_succ_le hf.1, Nat.le_trans (Nat.le_add_right _ _) hf.2⟩ (fun H locs S0 => ?_)
  refine lv_icmp_eq (tgt := 762) hx hb d_Law_law_695 (by decide) (fun _ => ?_) (fun cc => absurd rfl cc)
  refine W.widen (k := cells + 1) (n := slots + 6) (Nat.le_add_right _ _) (Nat.le_add_right _ _) ?_
  exact kk σ' τ' f H locs ls hR S0 hl
set_option maxHeartbeats 4000000 in
set_option maxRecDepth 100000 in
theorem law_edge (hx : p.tables.exec = Jvm.exec) (hb : c.code = code) (hml : c.maxLocals = 7) (hown : s.vm.findClass "BlockRulerLaw" = some m.cls) (hg : ∀ w ∈ G_, w.before #[Value.ref b0] s = true) (hX : va_X b0 L xs s s.heap) (hbl : b0 < s.heap.size) (C1 : LCx l s dC dI a cs b ds o cO) (S0 : LSt s dC dI a cs b ds o cO σ τ f H locs) (h1 : vp_in (x4 + 1) L) (h2 : vp_in (x4 + 2) L) (h3 : vp_in (x4 + 3) L) (hl : lv_has ls 7 [(0, .ref b0), (1, .ref (a 0)), (2, .ref (b 0)), (3, .ref o), (4, .int x4)]) (hf : cells + 1 ≤ room_1.cells ∧ slots + 6 ≤ room_1.slots) (hp : ∃ (r : Int32) (σ' : SB) (τ' : SM), f_BlockRuler_edge σ (xs (Int32.toNatClampNeg (x4 + 1))) (xs (Int32.toNatClampNeg (x4 + 2))) = some (r, σ') ∧ f_Model_edge τ (xs (Int32.toNatClampNeg (x4 + 1))) (xs (Int32.toNatClampNeg (x4 + 2))) = some (r, τ') ∧ Rel σ' τ') (kk : ∀ (σ' : SB) (τ' : SM) (f' : Nat → Int64) (H : Heap) (locs : List Loc) (ls : Array Slot), Rel σ' τ' → LSt s dC dI a cs b ds o cO σ' τ' f' H locs → lv_has ls 7 [(0, .ref b0), (1, .ref (a 0)), (2, .ref (b 0)), (3, .ref o), (4, .int x4)] → W p l e room_1 s m #[Value.ref b0] below meth c H locs (cells + 1) (slots + 6) Q (F0 m 762 ls [])) : W p l e room_1 s m #[Value.ref b0] below meth c H locs cells slots Q (F0 m 700 ls []) := by
  obtain ⟨r, σ', τ', e1, e2, hR⟩ := hp
  refine lv_aload_n hx hb d_Law_law_700 rfl (lv_at hl 1 rfl) ?_
  refine lv_aload_n hx hb d_Law_law_701 rfl (lv_at hl 0 rfl) ?_
  refine lv_iload hx hb d_Law_law_702 (lv_at hl 4 rfl) ?_
  refine lv_iconst (v := 1) hx hb d_Law_law_704 (by decide) ?_
  refine lv_iadd hx hb d_Law_law_705 ?_
  refine va_sld hx hb hX hbl (A := fun q => s.heap.size ≤ q) (Nat.not_le.mpr hbl) S0.2.2.2.2.2 h1 d_Law_law_706 ?_
  refine lv_aload_n hx hb d_Law_law_707 rfl (lv_at hl 0 rfl) ?_
  refine lv_iload hx hb d_Law_law_708 (lv_at hl 4 rfl) ?_
  refine lv_iconst (v := 2) hx hb d_Law_law_710 (by decide) ?_
  refine lv_iadd hx hb d_Law_law_711 ?_
  refine va_sld hx hb hX hbl (A := fun q => s.heap.size ≤ q) (Nat.not_le.mpr hbl) S0.2.2.2.2.2 h2 d_Law_law_712 ?_
  refine lw_cB (As := [.int (xs (Int32.toNatClampNeg (x4 + 1))), .int (xs (Int32.toNatClampNeg (x4 + 2)))]) (rest := []) (r := (r, σ')) hx hb hml hown hg C1 S0 (c_BlockRuler_edge l dC dI a cs H.size σ (xs (Int32.toNatClampNeg (x4 + 1))) (xs (Int32.toNatClampNeg (x4 + 2))) (r, σ') e1) (cwV 2 hg (gdV wl407 wl408 wl409 wd22 wl410) rfl rfl rfl (by decide +kernel) ⟨Nat.le_of_ble_eq_true rfl, Nat.le_of_ble_eq_true rfl⟩) rfl hl.1 rfl (Nat.le_of_ble_eq_true rfl) d_Law_law_713 ⟨Nat.le_of_succ_le hf.1, Nat.le_trans (Nat.le_add_right _ _) hf.2⟩ (fun H locs S0 => ?_)
  refine lv_aload_n hx hb d_Law_law_716 rfl (lv_at hl 2 rfl) ?_
  refine lv_aload_n hx hb d_Law_law_717 rfl (lv_at hl 0 rfl) ?_
  refine lv_iload hx hb d_Law_law_718 (lv_at hl 4 rfl) ?_
  refine lv_iconst (v := 1) hx hb d_Law_law_720 (by decide) ?_
  refine lv_iadd hx hb d_Law_law_721 ?_
  refine va_sld hx hb hX hbl (A := fun q => s.heap.size ≤ q) (Nat.not_le.mpr hbl) S0.2.2.2.2.2 h1 d_Law_law_722 ?_
  refine lv_aload_n hx hb d_Law_law_723 rfl (lv_at hl 0 rfl) ?_
  refine lv_iload hx hb d_Law_law_724 (lv_at hl 4 rfl) ?_
  refine lv_iconst (v := 2) hx hb d_Law_law_726 (by decide) ?_
  refine lv_iadd hx hb d_Law_law_727 ?_
  refine va_sld hx hb hX hbl (A := fun q => s.heap.size ≤ q) (Nat.not_le.mpr hbl) S0.2.2.2.2.2 h2 d_Law_law_728 ?_
  refine lw_cM (As := [.int (xs (Int32.toNatClampNeg (x4 + 1))), .int (xs (Int32.toNatClampNeg (x4 + 2)))]) (rest := [.int r]) (r := (r, τ')) hx hb hml hown hg C1 S0 (c_Model_edge l dC dI b ds H.size τ (xs (Int32.toNatClampNeg (x4 + 1))) (xs (Int32.toNatClampNeg (x4 + 2))) (r, τ') e2) (cwV 2 hg (gdV wl411 wl412 wl413 wd215 wl414) rfl rfl rfl (by decide +kernel) ⟨Nat.le_of_ble_eq_true rfl, Nat.le_of_ble_eq_true rfl⟩) rfl hl.1 rfl (Nat.le_of_ble_eq_true rfl) d_Law_law_729 ⟨Nat.le_of_succ_le hf.1, Nat.le_trans (Nat.le_add_right _ _) hf.2⟩ (fun H locs S0 => ?_)
  refine lv_icmp_eq (tgt := 762) hx hb d_Law_law_732 (by decide) (fun _ => ?_) (fun cc => absurd rfl cc)
  refine W.widen (k := cells + 1) (n := slots + 6) (Nat.le_add_right _ _) (Nat.le_add_right _ _) ?_
  exact kk σ' τ' f H locs ls hR S0 hl
set_option maxHeartbeats 4000000 in
set_option maxRecDepth 100000 in
theorem law_count (hx : p.tables.exec = Jvm.exec) (hb : c.code = code) (hml : c.maxLocals = 7) (hown : s.vm.findClass "BlockRulerLaw" = some m.cls) (hg : ∀ w ∈ G_, w.before #[Value.ref b0] s = true) (hX : va_X b0 L xs s s.heap) (hbl : b0 < s.heap.size) (C1 : LCx l s dC dI a cs b ds o cO) (S0 : LSt s dC dI a cs b ds o cO σ τ f H locs) (h1 : vp_in (x4 + 1) L) (h2 : vp_in (x4 + 2) L) (h3 : vp_in (x4 + 3) L) (hl : lv_has ls 7 [(0, .ref b0), (1, .ref (a 0)), (2, .ref (b 0)), (3, .ref o), (4, .int x4)]) (hf : cells + 1 ≤ room_1.cells ∧ slots + 6 ≤ room_1.slots) (hp : ∃ (r : Int32) (σ' : SB) (τ' : SM), f_BlockRuler_count σ (xs (Int32.toNatClampNeg (x4 + 1))) = some (r, σ') ∧ f_Model_count τ (xs (Int32.toNatClampNeg (x4 + 1))) = some (r, τ') ∧ Rel σ' τ') (kk : ∀ (σ' : SB) (τ' : SM) (f' : Nat → Int64) (H : Heap) (locs : List Loc) (ls : Array Slot), Rel σ' τ' → LSt s dC dI a cs b ds o cO σ' τ' f' H locs → lv_has ls 7 [(0, .ref b0), (1, .ref (a 0)), (2, .ref (b 0)), (3, .ref o), (4, .int x4)] → W p l e room_1 s m #[Value.ref b0] below meth c H locs (cells + 1) (slots + 6) Q (F0 m 762 ls [])) : W p l e room_1 s m #[Value.ref b0] below meth c H locs cells slots Q (F0 m 737 ls []) := by
  obtain ⟨r, σ', τ', e1, e2, hR⟩ := hp
  refine lv_aload_n hx hb d_Law_law_737 rfl (lv_at hl 1 rfl) ?_
  refine lv_aload_n hx hb d_Law_law_738 rfl (lv_at hl 0 rfl) ?_
  refine lv_iload hx hb d_Law_law_739 (lv_at hl 4 rfl) ?_
  refine lv_iconst (v := 1) hx hb d_Law_law_741 (by decide) ?_
  refine lv_iadd hx hb d_Law_law_742 ?_
  refine va_sld hx hb hX hbl (A := fun q => s.heap.size ≤ q) (Nat.not_le.mpr hbl) S0.2.2.2.2.2 h1 d_Law_law_743 ?_
  refine lw_cB (As := [.int (xs (Int32.toNatClampNeg (x4 + 1)))]) (rest := []) (r := (r, σ')) hx hb hml hown hg C1 S0 (c_BlockRuler_count l dC dI a cs H.size σ (xs (Int32.toNatClampNeg (x4 + 1))) (r, σ') e1) (cwV 1 hg (gdV wl415 wl416 wl417 wd22 wl418) rfl rfl rfl (by decide +kernel) ⟨Nat.le_of_ble_eq_true rfl, Nat.le_of_ble_eq_true rfl⟩) rfl hl.1 rfl (Nat.le_of_ble_eq_true rfl) d_Law_law_744 ⟨Nat.le_of_succ_le hf.1, Nat.le_trans (Nat.le_add_right _ _) hf.2⟩ (fun H locs S0 => ?_)
  refine lv_aload_n hx hb d_Law_law_747 rfl (lv_at hl 2 rfl) ?_
  refine lv_aload_n hx hb d_Law_law_748 rfl (lv_at hl 0 rfl) ?_
  refine lv_iload hx hb d_Law_law_749 (lv_at hl 4 rfl) ?_
  refine lv_iconst (v := 1) hx hb d_Law_law_751 (by decide) ?_
  refine lv_iadd hx hb d_Law_law_752 ?_
  refine va_sld hx hb hX hbl (A := fun q => s.heap.size ≤ q) (Nat.not_le.mpr hbl) S0.2.2.2.2.2 h1 d_Law_law_753 ?_
  refine lw_cM (As := [.int (xs (Int32.toNatClampNeg (x4 + 1)))]) (rest := [.int r]) (r := (r, τ')) hx hb hml hown hg C1 S0 (c_Model_count l dC dI b ds H.size τ (xs (Int32.toNatClampNeg (x4 + 1))) (r, τ') e2) (cwV 1 hg (gdV wl419 wl420 wl421 wd215 wl422) rfl rfl rfl (by decide +kernel) ⟨Nat.le_of_ble_eq_true rfl, Nat.le_of_ble_eq_true rfl⟩) rfl hl.1 rfl (Nat.le_of_ble_eq_true rfl) d_Law_law_754 ⟨Nat.le_of_succ_le hf.1, Nat.le_trans (Nat.le_add_right _ _) hf.2⟩ (fun H locs S0 => ?_)
  refine lv_icmp_eq (tgt := 762) hx hb d_Law_law_757 (by decide) (fun _ => ?_) (fun cc => absurd rfl cc)
  refine W.widen (k := cells + 1) (n := slots + 6) (Nat.le_add_right _ _) (Nat.le_add_right _ _) ?_
  exact kk σ' τ' f H locs ls hR S0 hl
end LAWC
