-- written by wip/gen (blockruler.py)
theorem wd271 : Cond.methodLink "BlockRuler$Web" 3 objectInit ∈ G_ := g_in (by decide +kernel) (by decide +kernel)
theorem wd272 : Cond.instanceMethod objectInit ∈ G_ := g_in (by decide +kernel) (by decide +kernel)
theorem wd273 : Cond.code objectInit ⟨#[0xb1]⟩ 1 none ∈ G_ := g_in (by decide +kernel) (by decide +kernel)
theorem wd274 : Cond.arrayClass .int ∈ G_ := g_in (by decide +kernel) (by decide +kernel)
theorem wd275 : Cond.methodLink "BlockRuler$Walk" 3 objectInit ∈ G_ := g_in (by decide +kernel) (by decide +kernel)
theorem wd276 : Cond.arrayClass .long ∈ G_ := g_in (by decide +kernel) (by decide +kernel)
theorem wd277 : Cond.methodLink "BlockRuler$Rulers" 3 objectInit ∈ G_ := g_in (by decide +kernel) (by decide +kernel)
theorem wd278 : Cond.methodLink "BlockRuler$Loops" 3 objectInit ∈ G_ := g_in (by decide +kernel) (by decide +kernel)
theorem wd279 : Cond.methodLink "BlockRuler" 3 objectInit ∈ G_ := g_in (by decide +kernel) (by decide +kernel)
theorem wd280 : Cond.classLink "BlockRuler" 9 "BlockRuler$Web" ∈ G_ := g_in (by decide +kernel) (by decide +kernel)
theorem wd281 : Cond.instantiable "BlockRuler$Web" 4 ∈ G_ := g_in (by decide +kernel) (by decide +kernel)
theorem wd282 : Cond.code y_Web_init b_Web_init 1 none ∈ G_ := g_in (by decide +kernel) (by decide +kernel)
theorem wd283 : Cond.methodLink "BlockRuler" 11 y_Web_init ∈ G_ := g_in (by decide +kernel) (by decide +kernel)
theorem wd284 : Cond.instanceMethod y_Web_init ∈ G_ := g_in (by decide +kernel) (by decide +kernel)
theorem wd285 : Cond.classLink "BlockRuler" 16 "BlockRuler$Walk" ∈ G_ := g_in (by decide +kernel) (by decide +kernel)
theorem wd286 : Cond.instantiable "BlockRuler$Walk" 9 ∈ G_ := g_in (by decide +kernel) (by decide +kernel)
theorem wd287 : Cond.code y_Walk_init b_Walk_init 2 none ∈ G_ := g_in (by decide +kernel) (by decide +kernel)
theorem wd288 : Cond.methodLink "BlockRuler" 18 y_Walk_init ∈ G_ := g_in (by decide +kernel) (by decide +kernel)
theorem wd289 : Cond.instanceMethod y_Walk_init ∈ G_ := g_in (by decide +kernel) (by decide +kernel)
theorem wd290 : Cond.classLink "BlockRuler" 25 "BlockRuler$Rulers" ∈ G_ := g_in (by decide +kernel) (by decide +kernel)
theorem wd291 : Cond.instantiable "BlockRuler$Rulers" 2 ∈ G_ := g_in (by decide +kernel) (by decide +kernel)
theorem wd292 : Cond.code y_Rulers_init b_Rulers_init 2 none ∈ G_ := g_in (by decide +kernel) (by decide +kernel)
theorem wd293 : Cond.methodLink "BlockRuler" 27 y_Rulers_init ∈ G_ := g_in (by decide +kernel) (by decide +kernel)
theorem wd294 : Cond.instanceMethod y_Rulers_init ∈ G_ := g_in (by decide +kernel) (by decide +kernel)
theorem wd295 : Cond.classLink "BlockRuler" 34 "BlockRuler$Loops" ∈ G_ := g_in (by decide +kernel) (by decide +kernel)
theorem wd296 : Cond.instantiable "BlockRuler$Loops" 7 ∈ G_ := g_in (by decide +kernel) (by decide +kernel)
theorem wd297 : Cond.code y_Loops_init b_Loops_init 4 none ∈ G_ := g_in (by decide +kernel) (by decide +kernel)
theorem wd298 : Cond.methodLink "BlockRuler" 36 y_Loops_init ∈ G_ := g_in (by decide +kernel) (by decide +kernel)
theorem wd299 : Cond.instanceMethod y_Loops_init ∈ G_ := g_in (by decide +kernel) (by decide +kernel)
theorem wd300 : Cond.methodLink "BlockRulerModel" 1 objectInit ∈ G_ := g_in (by decide +kernel) (by decide +kernel)
theorem wd301 : Cond.arrayClass .boolean ∈ G_ := g_in (by decide +kernel) (by decide +kernel)
theorem d_BlockRuler_init_0 : decode b_BlockRuler_init 0 = .ok (.aload_n 0, 1) := by decide +kernel
theorem d_BlockRuler_init_1 : decode b_BlockRuler_init 1 = .ok (.invokespecial 3, 3) := by decide +kernel
theorem d_BlockRuler_init_4 : decode b_BlockRuler_init 4 = .ok (.aload_n 0, 1) := by decide +kernel
theorem d_BlockRuler_init_5 : decode b_BlockRuler_init 5 = .ok (.new 9, 3) := by decide +kernel
theorem d_BlockRuler_init_8 : decode b_BlockRuler_init 8 = .ok (.dup, 1) := by decide +kernel
theorem d_BlockRuler_init_9 : decode b_BlockRuler_init 9 = .ok (.invokespecial 11, 3) := by decide +kernel
theorem d_BlockRuler_init_12 : decode b_BlockRuler_init 12 = .ok (.putfield 12, 3) := by decide +kernel
theorem d_BlockRuler_init_15 : decode b_BlockRuler_init 15 = .ok (.aload_n 0, 1) := by decide +kernel
theorem d_BlockRuler_init_16 : decode b_BlockRuler_init 16 = .ok (.new 16, 3) := by decide +kernel
theorem d_BlockRuler_init_19 : decode b_BlockRuler_init 19 = .ok (.dup, 1) := by decide +kernel
theorem d_BlockRuler_init_20 : decode b_BlockRuler_init 20 = .ok (.aload_n 0, 1) := by decide +kernel
theorem d_BlockRuler_init_21 : decode b_BlockRuler_init 21 = .ok (.getfield 12, 3) := by decide +kernel
theorem d_BlockRuler_init_24 : decode b_BlockRuler_init 24 = .ok (.invokespecial 18, 3) := by decide +kernel
theorem d_BlockRuler_init_27 : decode b_BlockRuler_init 27 = .ok (.putfield 21, 3) := by decide +kernel
theorem d_BlockRuler_init_30 : decode b_BlockRuler_init 30 = .ok (.aload_n 0, 1) := by decide +kernel
theorem d_BlockRuler_init_31 : decode b_BlockRuler_init 31 = .ok (.new 25, 3) := by decide +kernel
theorem d_BlockRuler_init_34 : decode b_BlockRuler_init 34 = .ok (.dup, 1) := by decide +kernel
theorem d_BlockRuler_init_35 : decode b_BlockRuler_init 35 = .ok (.aload_n 0, 1) := by decide +kernel
theorem d_BlockRuler_init_36 : decode b_BlockRuler_init 36 = .ok (.getfield 21, 3) := by decide +kernel
theorem d_BlockRuler_init_39 : decode b_BlockRuler_init 39 = .ok (.invokespecial 27, 3) := by decide +kernel
theorem d_BlockRuler_init_42 : decode b_BlockRuler_init 42 = .ok (.putfield 30, 3) := by decide +kernel
theorem d_BlockRuler_init_45 : decode b_BlockRuler_init 45 = .ok (.aload_n 0, 1) := by decide +kernel
theorem d_BlockRuler_init_46 : decode b_BlockRuler_init 46 = .ok (.new 34, 3) := by decide +kernel
theorem d_BlockRuler_init_49 : decode b_BlockRuler_init 49 = .ok (.dup, 1) := by decide +kernel
theorem d_BlockRuler_init_50 : decode b_BlockRuler_init 50 = .ok (.aload_n 0, 1) := by decide +kernel
theorem d_BlockRuler_init_51 : decode b_BlockRuler_init 51 = .ok (.getfield 12, 3) := by decide +kernel
theorem d_BlockRuler_init_54 : decode b_BlockRuler_init 54 = .ok (.aload_n 0, 1) := by decide +kernel
theorem d_BlockRuler_init_55 : decode b_BlockRuler_init 55 = .ok (.getfield 21, 3) := by decide +kernel
theorem d_BlockRuler_init_58 : decode b_BlockRuler_init 58 = .ok (.aload_n 0, 1) := by decide +kernel
theorem d_BlockRuler_init_59 : decode b_BlockRuler_init 59 = .ok (.getfield 30, 3) := by decide +kernel
theorem d_BlockRuler_init_62 : decode b_BlockRuler_init 62 = .ok (.invokespecial 36, 3) := by decide +kernel
theorem d_BlockRuler_init_65 : decode b_BlockRuler_init 65 = .ok (.putfield 39, 3) := by decide +kernel
theorem d_BlockRuler_init_68 : decode b_BlockRuler_init 68 = .ok (.aload_n 0, 1) := by decide +kernel
theorem d_BlockRuler_init_69 : decode b_BlockRuler_init 69 = .ok (.iconst 1, 1) := by decide +kernel
theorem d_BlockRuler_init_70 : decode b_BlockRuler_init 70 = .ok (.putfield 43, 3) := by decide +kernel
theorem d_BlockRuler_init_73 : decode b_BlockRuler_init 73 = .ok (.return_, 1) := by decide +kernel
theorem d_Web_init_0 : decode b_Web_init 0 = .ok (.aload_n 0, 1) := by decide +kernel
theorem d_Web_init_1 : decode b_Web_init 1 = .ok (.invokespecial 3, 3) := by decide +kernel
theorem d_Web_init_4 : decode b_Web_init 4 = .ok (.aload_n 0, 1) := by decide +kernel
theorem d_Web_init_5 : decode b_Web_init 5 = .ok (.bipush 64, 2) := by decide +kernel
theorem d_Web_init_7 : decode b_Web_init 7 = .ok (.newarray .int, 2) := by decide +kernel
theorem d_Web_init_9 : decode b_Web_init 9 = .ok (.putfield 9, 3) := by decide +kernel
theorem d_Web_init_12 : decode b_Web_init 12 = .ok (.aload_n 0, 1) := by decide +kernel
theorem d_Web_init_13 : decode b_Web_init 13 = .ok (.sipush 512, 3) := by decide +kernel
theorem d_Web_init_16 : decode b_Web_init 16 = .ok (.newarray .int, 2) := by decide +kernel
theorem d_Web_init_18 : decode b_Web_init 18 = .ok (.putfield 15, 3) := by decide +kernel
theorem d_Web_init_21 : decode b_Web_init 21 = .ok (.aload_n 0, 1) := by decide +kernel
theorem d_Web_init_22 : decode b_Web_init 22 = .ok (.iconst 1, 1) := by decide +kernel
theorem d_Web_init_23 : decode b_Web_init 23 = .ok (.putfield 18, 3) := by decide +kernel
theorem d_Web_init_26 : decode b_Web_init 26 = .ok (.aload_n 0, 1) := by decide +kernel
theorem d_Web_init_27 : decode b_Web_init 27 = .ok (.iconst 0, 1) := by decide +kernel
theorem d_Web_init_28 : decode b_Web_init 28 = .ok (.putfield 22, 3) := by decide +kernel
theorem d_Web_init_31 : decode b_Web_init 31 = .ok (.return_, 1) := by decide +kernel
theorem d_Walk_init_0 : decode b_Walk_init 0 = .ok (.aload_n 0, 1) := by decide +kernel
theorem d_Walk_init_1 : decode b_Walk_init 1 = .ok (.invokespecial 3, 3) := by decide +kernel
theorem d_Walk_init_4 : decode b_Walk_init 4 = .ok (.aload_n 0, 1) := by decide +kernel
theorem d_Walk_init_5 : decode b_Walk_init 5 = .ok (.aload_n 1, 1) := by decide +kernel
theorem d_Walk_init_6 : decode b_Walk_init 6 = .ok (.putfield 9, 3) := by decide +kernel
theorem d_Walk_init_9 : decode b_Walk_init 9 = .ok (.aload_n 0, 1) := by decide +kernel
theorem d_Walk_init_10 : decode b_Walk_init 10 = .ok (.bipush 64, 2) := by decide +kernel
theorem d_Walk_init_12 : decode b_Walk_init 12 = .ok (.newarray .int, 2) := by decide +kernel
theorem d_Walk_init_14 : decode b_Walk_init 14 = .ok (.putfield 15, 3) := by decide +kernel
theorem d_Walk_init_17 : decode b_Walk_init 17 = .ok (.aload_n 0, 1) := by decide +kernel
theorem d_Walk_init_18 : decode b_Walk_init 18 = .ok (.bipush 64, 2) := by decide +kernel
theorem d_Walk_init_20 : decode b_Walk_init 20 = .ok (.newarray .int, 2) := by decide +kernel
theorem d_Walk_init_22 : decode b_Walk_init 22 = .ok (.putfield 19, 3) := by decide +kernel
theorem d_Walk_init_25 : decode b_Walk_init 25 = .ok (.aload_n 0, 1) := by decide +kernel
theorem d_Walk_init_26 : decode b_Walk_init 26 = .ok (.bipush 64, 2) := by decide +kernel
theorem d_Walk_init_28 : decode b_Walk_init 28 = .ok (.newarray .int, 2) := by decide +kernel
theorem d_Walk_init_30 : decode b_Walk_init 30 = .ok (.putfield 22, 3) := by decide +kernel
theorem d_Walk_init_33 : decode b_Walk_init 33 = .ok (.aload_n 0, 1) := by decide +kernel
theorem d_Walk_init_34 : decode b_Walk_init 34 = .ok (.bipush 64, 2) := by decide +kernel
theorem d_Walk_init_36 : decode b_Walk_init 36 = .ok (.newarray .int, 2) := by decide +kernel
theorem d_Walk_init_38 : decode b_Walk_init 38 = .ok (.putfield 25, 3) := by decide +kernel
theorem d_Walk_init_41 : decode b_Walk_init 41 = .ok (.aload_n 0, 1) := by decide +kernel
theorem d_Walk_init_42 : decode b_Walk_init 42 = .ok (.bipush 64, 2) := by decide +kernel
theorem d_Walk_init_44 : decode b_Walk_init 44 = .ok (.newarray .long, 2) := by decide +kernel
theorem d_Walk_init_46 : decode b_Walk_init 46 = .ok (.putfield 28, 3) := by decide +kernel
theorem d_Walk_init_49 : decode b_Walk_init 49 = .ok (.aload_n 0, 1) := by decide +kernel
theorem d_Walk_init_50 : decode b_Walk_init 50 = .ok (.bipush 64, 2) := by decide +kernel
theorem d_Walk_init_52 : decode b_Walk_init 52 = .ok (.newarray .int, 2) := by decide +kernel
theorem d_Walk_init_54 : decode b_Walk_init 54 = .ok (.putfield 32, 3) := by decide +kernel
theorem d_Walk_init_57 : decode b_Walk_init 57 = .ok (.aload_n 0, 1) := by decide +kernel
theorem d_Walk_init_58 : decode b_Walk_init 58 = .ok (.iconst 0, 1) := by decide +kernel
theorem d_Walk_init_59 : decode b_Walk_init 59 = .ok (.putfield 35, 3) := by decide +kernel
theorem d_Walk_init_62 : decode b_Walk_init 62 = .ok (.aload_n 0, 1) := by decide +kernel
theorem d_Walk_init_63 : decode b_Walk_init 63 = .ok (.lconst 0, 1) := by decide +kernel
theorem d_Walk_init_64 : decode b_Walk_init 64 = .ok (.putfield 39, 3) := by decide +kernel
theorem d_Walk_init_67 : decode b_Walk_init 67 = .ok (.return_, 1) := by decide +kernel
theorem d_Rulers_init_0 : decode b_Rulers_init 0 = .ok (.aload_n 0, 1) := by decide +kernel
theorem d_Rulers_init_1 : decode b_Rulers_init 1 = .ok (.invokespecial 3, 3) := by decide +kernel
theorem d_Rulers_init_4 : decode b_Rulers_init 4 = .ok (.aload_n 0, 1) := by decide +kernel
theorem d_Rulers_init_5 : decode b_Rulers_init 5 = .ok (.aload_n 1, 1) := by decide +kernel
theorem d_Rulers_init_6 : decode b_Rulers_init 6 = .ok (.putfield 9, 3) := by decide +kernel
theorem d_Rulers_init_9 : decode b_Rulers_init 9 = .ok (.aload_n 0, 1) := by decide +kernel
theorem d_Rulers_init_10 : decode b_Rulers_init 10 = .ok (.bipush 64, 2) := by decide +kernel
theorem d_Rulers_init_12 : decode b_Rulers_init 12 = .ok (.newarray .long, 2) := by decide +kernel
theorem d_Rulers_init_14 : decode b_Rulers_init 14 = .ok (.putfield 15, 3) := by decide +kernel
theorem d_Rulers_init_17 : decode b_Rulers_init 17 = .ok (.return_, 1) := by decide +kernel
theorem d_Loops_init_0 : decode b_Loops_init 0 = .ok (.aload_n 0, 1) := by decide +kernel
theorem d_Loops_init_1 : decode b_Loops_init 1 = .ok (.invokespecial 3, 3) := by decide +kernel
theorem d_Loops_init_4 : decode b_Loops_init 4 = .ok (.aload_n 0, 1) := by decide +kernel
theorem d_Loops_init_5 : decode b_Loops_init 5 = .ok (.aload_n 1, 1) := by decide +kernel
theorem d_Loops_init_6 : decode b_Loops_init 6 = .ok (.putfield 9, 3) := by decide +kernel
theorem d_Loops_init_9 : decode b_Loops_init 9 = .ok (.aload_n 0, 1) := by decide +kernel
theorem d_Loops_init_10 : decode b_Loops_init 10 = .ok (.aload_n 2, 1) := by decide +kernel
theorem d_Loops_init_11 : decode b_Loops_init 11 = .ok (.putfield 15, 3) := by decide +kernel
theorem d_Loops_init_14 : decode b_Loops_init 14 = .ok (.aload_n 0, 1) := by decide +kernel
theorem d_Loops_init_15 : decode b_Loops_init 15 = .ok (.aload_n 3, 1) := by decide +kernel
theorem d_Loops_init_16 : decode b_Loops_init 16 = .ok (.putfield 19, 3) := by decide +kernel
theorem d_Loops_init_19 : decode b_Loops_init 19 = .ok (.aload_n 0, 1) := by decide +kernel
theorem d_Loops_init_20 : decode b_Loops_init 20 = .ok (.bipush 64, 2) := by decide +kernel
theorem d_Loops_init_22 : decode b_Loops_init 22 = .ok (.newarray .long, 2) := by decide +kernel
theorem d_Loops_init_24 : decode b_Loops_init 24 = .ok (.putfield 23, 3) := by decide +kernel
theorem d_Loops_init_27 : decode b_Loops_init 27 = .ok (.aload_n 0, 1) := by decide +kernel
theorem d_Loops_init_28 : decode b_Loops_init 28 = .ok (.iconst 0, 1) := by decide +kernel
theorem d_Loops_init_29 : decode b_Loops_init 29 = .ok (.putfield 27, 3) := by decide +kernel
theorem d_Loops_init_32 : decode b_Loops_init 32 = .ok (.aload_n 0, 1) := by decide +kernel
theorem d_Loops_init_33 : decode b_Loops_init 33 = .ok (.iconst 0, 1) := by decide +kernel
theorem d_Loops_init_34 : decode b_Loops_init 34 = .ok (.putfield 31, 3) := by decide +kernel
theorem d_Loops_init_37 : decode b_Loops_init 37 = .ok (.aload_n 0, 1) := by decide +kernel
theorem d_Loops_init_38 : decode b_Loops_init 38 = .ok (.iconst 0, 1) := by decide +kernel
theorem d_Loops_init_39 : decode b_Loops_init 39 = .ok (.putfield 34, 3) := by decide +kernel
theorem d_Loops_init_42 : decode b_Loops_init 42 = .ok (.return_, 1) := by decide +kernel
theorem d_Model_init_0 : decode b_Model_init 0 = .ok (.aload_n 0, 1) := by decide +kernel
theorem d_Model_init_1 : decode b_Model_init 1 = .ok (.invokespecial 1, 3) := by decide +kernel
theorem d_Model_init_4 : decode b_Model_init 4 = .ok (.aload_n 0, 1) := by decide +kernel
theorem d_Model_init_5 : decode b_Model_init 5 = .ok (.iconst 1, 1) := by decide +kernel
theorem d_Model_init_6 : decode b_Model_init 6 = .ok (.putfield 7, 3) := by decide +kernel
theorem d_Model_init_9 : decode b_Model_init 9 = .ok (.aload_n 0, 1) := by decide +kernel
theorem d_Model_init_10 : decode b_Model_init 10 = .ok (.bipush 64, 2) := by decide +kernel
theorem d_Model_init_12 : decode b_Model_init 12 = .ok (.newarray .int, 2) := by decide +kernel
theorem d_Model_init_14 : decode b_Model_init 14 = .ok (.putfield 13, 3) := by decide +kernel
theorem d_Model_init_17 : decode b_Model_init 17 = .ok (.aload_n 0, 1) := by decide +kernel
theorem d_Model_init_18 : decode b_Model_init 18 = .ok (.sipush 512, 3) := by decide +kernel
theorem d_Model_init_21 : decode b_Model_init 21 = .ok (.newarray .int, 2) := by decide +kernel
theorem d_Model_init_23 : decode b_Model_init 23 = .ok (.putfield 17, 3) := by decide +kernel
theorem d_Model_init_26 : decode b_Model_init 26 = .ok (.aload_n 0, 1) := by decide +kernel
theorem d_Model_init_27 : decode b_Model_init 27 = .ok (.bipush 64, 2) := by decide +kernel
theorem d_Model_init_29 : decode b_Model_init 29 = .ok (.newarray .int, 2) := by decide +kernel
theorem d_Model_init_31 : decode b_Model_init 31 = .ok (.putfield 20, 3) := by decide +kernel
theorem d_Model_init_34 : decode b_Model_init 34 = .ok (.aload_n 0, 1) := by decide +kernel
theorem d_Model_init_35 : decode b_Model_init 35 = .ok (.bipush 64, 2) := by decide +kernel
theorem d_Model_init_37 : decode b_Model_init 37 = .ok (.newarray .int, 2) := by decide +kernel
theorem d_Model_init_39 : decode b_Model_init 39 = .ok (.putfield 23, 3) := by decide +kernel
theorem d_Model_init_42 : decode b_Model_init 42 = .ok (.aload_n 0, 1) := by decide +kernel
theorem d_Model_init_43 : decode b_Model_init 43 = .ok (.sipush 4096, 3) := by decide +kernel
theorem d_Model_init_46 : decode b_Model_init 46 = .ok (.newarray .boolean, 2) := by decide +kernel
theorem d_Model_init_48 : decode b_Model_init 48 = .ok (.putfield 26, 3) := by decide +kernel
theorem d_Model_init_51 : decode b_Model_init 51 = .ok (.aload_n 0, 1) := by decide +kernel
theorem d_Model_init_52 : decode b_Model_init 52 = .ok (.bipush 64, 2) := by decide +kernel
theorem d_Model_init_54 : decode b_Model_init 54 = .ok (.newarray .int, 2) := by decide +kernel
theorem d_Model_init_56 : decode b_Model_init 56 = .ok (.putfield 30, 3) := by decide +kernel
theorem d_Model_init_59 : decode b_Model_init 59 = .ok (.aload_n 0, 1) := by decide +kernel
theorem d_Model_init_60 : decode b_Model_init 60 = .ok (.bipush 64, 2) := by decide +kernel
theorem d_Model_init_62 : decode b_Model_init 62 = .ok (.newarray .boolean, 2) := by decide +kernel
theorem d_Model_init_64 : decode b_Model_init 64 = .ok (.putfield 33, 3) := by decide +kernel
theorem d_Model_init_67 : decode b_Model_init 67 = .ok (.aload_n 0, 1) := by decide +kernel
theorem d_Model_init_68 : decode b_Model_init 68 = .ok (.sipush 4096, 3) := by decide +kernel
theorem d_Model_init_71 : decode b_Model_init 71 = .ok (.newarray .boolean, 2) := by decide +kernel
theorem d_Model_init_73 : decode b_Model_init 73 = .ok (.putfield 36, 3) := by decide +kernel
theorem d_Model_init_76 : decode b_Model_init 76 = .ok (.aload_n 0, 1) := by decide +kernel
theorem d_Model_init_77 : decode b_Model_init 77 = .ok (.bipush 64, 2) := by decide +kernel
theorem d_Model_init_79 : decode b_Model_init 79 = .ok (.newarray .int, 2) := by decide +kernel
theorem d_Model_init_81 : decode b_Model_init 81 = .ok (.putfield 39, 3) := by decide +kernel
theorem d_Model_init_84 : decode b_Model_init 84 = .ok (.aload_n 0, 1) := by decide +kernel
theorem d_Model_init_85 : decode b_Model_init 85 = .ok (.bipush 64, 2) := by decide +kernel
theorem d_Model_init_87 : decode b_Model_init 87 = .ok (.newarray .boolean, 2) := by decide +kernel
theorem d_Model_init_89 : decode b_Model_init 89 = .ok (.putfield 42, 3) := by decide +kernel
theorem d_Model_init_92 : decode b_Model_init 92 = .ok (.aload_n 0, 1) := by decide +kernel
theorem d_Model_init_93 : decode b_Model_init 93 = .ok (.bipush 64, 2) := by decide +kernel
theorem d_Model_init_95 : decode b_Model_init 95 = .ok (.newarray .int, 2) := by decide +kernel
theorem d_Model_init_97 : decode b_Model_init 97 = .ok (.putfield 45, 3) := by decide +kernel
theorem d_Model_init_100 : decode b_Model_init 100 = .ok (.aload_n 0, 1) := by decide +kernel
theorem d_Model_init_101 : decode b_Model_init 101 = .ok (.bipush 64, 2) := by decide +kernel
theorem d_Model_init_103 : decode b_Model_init 103 = .ok (.newarray .int, 2) := by decide +kernel
theorem d_Model_init_105 : decode b_Model_init 105 = .ok (.putfield 48, 3) := by decide +kernel
theorem d_Model_init_108 : decode b_Model_init 108 = .ok (.return_, 1) := by decide +kernel
def st0B : SB := (1, (fun _ => 0), (fun _ => 0), 1, 0, (fun _ => 0), (fun _ => 0), (fun _ => 0), (fun _ => 0), (fun _ => 0), (fun _ => 0), 0, 0, (fun _ => 0), (fun _ => 0), 0, 0, 0)
def st0M : SM := (0, 1, (fun _ => 0), (fun _ => 0), 0, 0, (fun _ => 0), (fun _ => 0), (fun _ => 0), (fun _ => 0), (fun _ => 0), (fun _ => 0), (fun _ => 0), (fun _ => 0), (fun _ => 0), (fun _ => 0))
theorem ci_blind {av : List Value} {D : va_G} {cl : List vw_C} {ws : va_W} {tys : List (ClassId × FieldType)} {sz : Nat} : FrameBlind (va_Pc av (fun U => U.heap.size = sz ∧ va_P D cl ws U.heap ∧ va_K D cl tys U ∧ va_D (fun _ => True) ws)) := fun a U g mk h =>
  ⟨h.1, h.2.1, h.2.2.1, va_K.moved (u := U) (U := U.calling g mk a) (Vm.Alike.refl U.vm) h.2.2.2.1, h.2.2.2.2⟩
def rmi_Web : Room := { frames := 1, cells := 2, slots := 576, locals := 12 }
abbrev wi_Web : List Cond := Cond.code y_Web_init b_Web_init 1 none :: G_
abbrev ai_Web (dC : Nat → ClassId) (dI : Nat → Nat → Nat) (A : Nat → Prop) (h0 : Nat) (u : Nat × ClassId × Nat × ClassId) (t : State) : Prop := match u with
  | (q1, c2, q3, c4) => va_P (dC, dI) classes [(h0, .inr (1, [.ref q1, .ref q3, .int 1, .int 0])), (q1, .inl (c2, 64, .inl (fun _ => 0))), (q3, .inl (c4, 512, .inl (fun _ => 0)))] t.heap ∧ va_K (dC, dI) classes [(c2, .int), (c4, .int)] t ∧ va_D A [(h0, .inr (1, [.ref q1, .ref q3, .int 1, .int 0])), (q1, .inl (c2, 64, .inl (fun _ => 0))), (q3, .inl (c4, 512, .inl (fun _ => 0)))]
set_option maxHeartbeats 4000000 in
set_option maxRecDepth 100000 in
theorem ci_Web (l : Launch) (dC : Nat → ClassId) (dI : Nat → Nat → Nat) (h0 : Nat) (sz : Nat) : Met l y_Web_init wi_Web rmi_Web (va_Pc [.ref h0] (fun U => U.heap.size = sz ∧ va_P (dC, dI) classes [(h0, .inr (1, [.null, .null, .int 0, .int 0]))] U.heap ∧ va_K (dC, dI) classes [] U ∧ va_D (fun _ => True) [(h0, .inr (1, [.null, .null, .int 0, .int 0]))])) (va_Qv (fun _ : Nat × ClassId × Nat × ClassId => True) (ai_Web dC dI (va_A [(h0, .inr (1, [.null, .null, .int 0, .int 0]))] sz) h0) (va_A [(h0, .inr (1, [.null, .null, .int 0, .int 0]))] sz)) 2 576 (va_A [(h0, .inr (1, [.null, .null, .int 0, .int 0]))] sz) := by
  refine Met.ofW (cc := b_Web_init) (maxL := 1) (ret := none) (by decide) rfl ?_
  intro p e s m args below meth c s₁ B hml hv
  obtain ⟨rfl, hsz, hP, hK, hD0⟩ := hv
  have hx := B.exec
  have hb := B.bytes
  have hr := B.returns
  have hg : ∀ w ∈ G_, w.before _ s = true := fun w hw => atoms_spec (ws := wi_Web) B.pre w (List.mem_cons_of_mem _ hw)
  have hown : s.vm.findClass "BlockRuler$Web" = some m.cls := findClass_of_methodNamed B.named
  have hlocks := B.notSynchronized
  have hin : meth.name = "<init>" := (name_of_methodNamed B.named B.method).1
  subst hsz
  have hD := hD0.self (sz := s.heap.size)
  generalize hAe : va_A [(h0, .inr (1, [.null, .null, .int 0, .int 0]))] s.heap.size = A at hD ⊢
  have hA : ∀ q : Nat, s.heap.size ≤ q → A q := fun q h => by rw [← hAe]; exact Or.inr h
  have hS : va_S A s.heap s.heap [] := va_S.rf
  have hl := lv_entry ([.ref h0]) (n := 1) (Nat.le_of_ble_eq_true rfl)
  rw [lg_entry_eq]
  generalize (lg_sl ([.ref h0]) ++ List.replicate (1 - (lg_sl ([.ref h0])).length) Slot.unset).toArray = ls at hl ⊢
  have hl : lv_has ls 1 [(0, .ref h0)] := hl
  refine lv_aload_n hx hb d_Web_init_0 rfl (lv_at hl 0 rfl) ?_
  refine W.objInit hx hb hown (hg _ wd271) (hg _ wd272) (hg _ wd273) rfl (by rw [hml]; exact hl.1) rfl d_Web_init_1 (Nat.le_of_ble_eq_true rfl) (Nat.le_of_ble_eq_true rfl) ?_
  refine W.eq (g2 := F0 m 4 ls []) rfl ?_
  refine lv_aload_n hx hb d_Web_init_4 rfl (lv_at hl 0 rfl) ?_
  refine lv_bipush (v := 64) hx hb d_Web_init_5 (by decide) ?_
  refine va_newa (atype := .int) (ty := .int) (N' := 64) (a0 := (64, .inl (fun _ => 0))) hx hb (hg _ wd274) rfl hK hP hD hS hA (fun _ => rfl) (by decide) (by decide) (by decide) (Nat.le_of_ble_eq_true rfl) (Nat.le_of_ble_eq_true rfl) d_Web_init_7 (fun q1 c2 H hK hP hD hS => ?_)
  have hP : va_P (dC, dI) classes [(h0, .inr (1, [.null, .null, .int 0, .int 0])), (q1, .inl (c2, 64, .inl (fun _ => 0)))] H := hP
  have hD : va_D A [(h0, .inr (1, [.null, .null, .int 0, .int 0])), (q1, .inl (c2, 64, .inl (fun _ => 0)))] := hD
  refine W.widen (k := 1) (n := 64) (by omega) (by omega) ?_
  refine va_putF (D := (dC, dI)) (ci := 1) (v := .ref q1) (ty := .array .int) (C := "BlockRuler$Web") (T := F_Web) (N := 4) hx hb hg i_Web t_Web t_Web_ok n_Web hown hK hP hD hS 0 rfl rfl 0 (by decide) (hg _ wd9) (fun _ h9 => h9) rfl hin rfl (by decide +kernel) rfl rfl (Nat.le_of_ble_eq_true rfl) d_Web_init_9 (fun H locs hP hD hS => ?_)
  have hP : va_P (dC, dI) classes [(h0, .inr (1, [.ref q1, .null, .int 0, .int 0])), (q1, .inl (c2, 64, .inl (fun _ => 0)))] H := hP
  have hD : va_D A [(h0, .inr (1, [.ref q1, .null, .int 0, .int 0])), (q1, .inl (c2, 64, .inl (fun _ => 0)))] := hD
  refine lv_aload_n hx hb d_Web_init_12 rfl (lv_at hl 0 rfl) ?_
  refine lv_sipush (v := 512) hx hb d_Web_init_13 (by decide) ?_
  refine va_newa (atype := .int) (ty := .int) (N' := 512) (a0 := (512, .inl (fun _ => 0))) hx hb (hg _ wd274) rfl hK hP hD hS hA (fun _ => rfl) (by decide) (by decide) (by decide) (Nat.le_of_ble_eq_true rfl) (Nat.le_of_ble_eq_true rfl) d_Web_init_16 (fun q3 c4 H hK hP hD hS => ?_)
  have hP : va_P (dC, dI) classes [(h0, .inr (1, [.ref q1, .null, .int 0, .int 0])), (q1, .inl (c2, 64, .inl (fun _ => 0))), (q3, .inl (c4, 512, .inl (fun _ => 0)))] H := hP
  have hD : va_D A [(h0, .inr (1, [.ref q1, .null, .int 0, .int 0])), (q1, .inl (c2, 64, .inl (fun _ => 0))), (q3, .inl (c4, 512, .inl (fun _ => 0)))] := hD
  refine W.widen (k := 2) (n := 576) (by omega) (by omega) ?_
  refine va_putF (D := (dC, dI)) (ci := 1) (v := .ref q3) (ty := .array .int) (C := "BlockRuler$Web") (T := F_Web) (N := 4) hx hb hg i_Web t_Web t_Web_ok n_Web hown hK hP hD hS 0 rfl rfl 1 (by decide) (hg _ wd10) (fun _ h9 => h9) rfl hin rfl (by decide +kernel) rfl rfl (Nat.le_of_ble_eq_true rfl) d_Web_init_18 (fun H locs hP hD hS => ?_)
  have hP : va_P (dC, dI) classes [(h0, .inr (1, [.ref q1, .ref q3, .int 0, .int 0])), (q1, .inl (c2, 64, .inl (fun _ => 0))), (q3, .inl (c4, 512, .inl (fun _ => 0)))] H := hP
  have hD : va_D A [(h0, .inr (1, [.ref q1, .ref q3, .int 0, .int 0])), (q1, .inl (c2, 64, .inl (fun _ => 0))), (q3, .inl (c4, 512, .inl (fun _ => 0)))] := hD
  refine lv_aload_n hx hb d_Web_init_21 rfl (lv_at hl 0 rfl) ?_
  refine lv_iconst (v := 1) hx hb d_Web_init_22 (by decide) ?_
  refine va_put (D := (dC, dI)) (ci := 1) (v := .int 1) (ty := .int) (C := "BlockRuler$Web") (T := F_Web) (N := 4) hx hb hg i_Web t_Web t_Web_ok n_Web hown hK hP hD hS 0 rfl rfl 2 (by decide) (hg _ wd3) (fun _ h9 => h9) rfl (by decide +kernel) rfl rfl (Nat.le_of_ble_eq_true rfl) d_Web_init_23 (fun H locs hP hD hS => ?_)
  have hP : va_P (dC, dI) classes [(h0, .inr (1, [.ref q1, .ref q3, .int 1, .int 0])), (q1, .inl (c2, 64, .inl (fun _ => 0))), (q3, .inl (c4, 512, .inl (fun _ => 0)))] H := hP
  have hD : va_D A [(h0, .inr (1, [.ref q1, .ref q3, .int 1, .int 0])), (q1, .inl (c2, 64, .inl (fun _ => 0))), (q3, .inl (c4, 512, .inl (fun _ => 0)))] := hD
  refine lv_aload_n hx hb d_Web_init_26 rfl (lv_at hl 0 rfl) ?_
  refine lv_iconst (v := 0) hx hb d_Web_init_27 (by decide) ?_
  refine va_put (D := (dC, dI)) (ci := 1) (v := .int 0) (ty := .int) (C := "BlockRuler$Web") (T := F_Web) (N := 4) hx hb hg i_Web t_Web t_Web_ok n_Web hown hK hP hD hS 0 rfl rfl 3 (by decide) (hg _ wd11) (fun _ h9 => h9) rfl (by decide +kernel) rfl rfl (Nat.le_of_ble_eq_true rfl) d_Web_init_28 (fun H locs hP hD hS => ?_)
  have hP : va_P (dC, dI) classes [(h0, .inr (1, [.ref q1, .ref q3, .int 1, .int 0])), (q1, .inl (c2, 64, .inl (fun _ => 0))), (q3, .inl (c4, 512, .inl (fun _ => 0)))] H := hP
  have hD : va_D A [(h0, .inr (1, [.ref q1, .ref q3, .int 1, .int 0])), (q1, .inl (c2, 64, .inl (fun _ => 0))), (q3, .inl (c4, 512, .inl (fun _ => 0)))] := hD
  exact W.vret hx hb hr (fun t ht hW => ⟨⟨(q1, c2, q3, c4), rfl, trivial, by rw [ht]; exact hP, va_K.moved hW.alike hK, hD⟩, hS.F ht⟩) hS.2.2 d_Web_init_31
def rmi_Walk : Room := { frames := 1, cells := 6, slots := 384, locals := 12 }
abbrev wi_Walk : List Cond := Cond.code y_Walk_init b_Walk_init 2 none :: G_
abbrev ai_Walk (dC : Nat → ClassId) (dI : Nat → Nat → Nat) (A : Nat → Prop) (h0 p1 : Nat) (u : Nat × ClassId × Nat × ClassId × Nat × ClassId × Nat × ClassId × Nat × ClassId × Nat × ClassId) (t : State) : Prop := match u with
  | (q1, c2, q3, c4, q5, c6, q7, c8, q9, c10, q11, c12) => va_P (dC, dI) classes [(h0, .inr (2, [.ref p1, .ref q1, .ref q3, .ref q5, .ref q7, .ref q9, .ref q11, .int 0, .long 0])), (q1, .inl (c2, 64, .inl (fun _ => 0))), (q3, .inl (c4, 64, .inl (fun _ => 0))), (q5, .inl (c6, 64, .inl (fun _ => 0))), (q7, .inl (c8, 64, .inl (fun _ => 0))), (q9, .inl (c10, 64, .inr (.inl (fun _ => 0)))), (q11, .inl (c12, 64, .inl (fun _ => 0)))] t.heap ∧ va_K (dC, dI) classes [(c2, .int), (c4, .int), (c6, .int), (c8, .int), (c10, .long), (c12, .int)] t ∧ va_D A [(h0, .inr (2, [.ref p1, .ref q1, .ref q3, .ref q5, .ref q7, .ref q9, .ref q11, .int 0, .long 0])), (q1, .inl (c2, 64, .inl (fun _ => 0))), (q3, .inl (c4, 64, .inl (fun _ => 0))), (q5, .inl (c6, 64, .inl (fun _ => 0))), (q7, .inl (c8, 64, .inl (fun _ => 0))), (q9, .inl (c10, 64, .inr (.inl (fun _ => 0)))), (q11, .inl (c12, 64, .inl (fun _ => 0)))]
set_option maxHeartbeats 4000000 in
set_option maxRecDepth 100000 in
theorem ci_Walk (l : Launch) (dC : Nat → ClassId) (dI : Nat → Nat → Nat) (h0 p1 : Nat) (sz : Nat) : Met l y_Walk_init wi_Walk rmi_Walk (va_Pc [.ref h0, .ref p1] (fun U => U.heap.size = sz ∧ va_P (dC, dI) classes [(h0, .inr (2, [.null, .null, .null, .null, .null, .null, .null, .int 0, .long 0]))] U.heap ∧ va_K (dC, dI) classes [] U ∧ va_D (fun _ => True) [(h0, .inr (2, [.null, .null, .null, .null, .null, .null, .null, .int 0, .long 0]))])) (va_Qv (fun _ : Nat × ClassId × Nat × ClassId × Nat × ClassId × Nat × ClassId × Nat × ClassId × Nat × ClassId => True) (ai_Walk dC dI (va_A [(h0, .inr (2, [.null, .null, .null, .null, .null, .null, .null, .int 0, .long 0]))] sz) h0 p1) (va_A [(h0, .inr (2, [.null, .null, .null, .null, .null, .null, .null, .int 0, .long 0]))] sz)) 6 384 (va_A [(h0, .inr (2, [.null, .null, .null, .null, .null, .null, .null, .int 0, .long 0]))] sz) := by
  refine Met.ofW (cc := b_Walk_init) (maxL := 2) (ret := none) (by decide) rfl ?_
  intro p e s m args below meth c s₁ B hml hv
  obtain ⟨rfl, hsz, hP, hK, hD0⟩ := hv
  have hx := B.exec
  have hb := B.bytes
  have hr := B.returns
  have hg : ∀ w ∈ G_, w.before _ s = true := fun w hw => atoms_spec (ws := wi_Walk) B.pre w (List.mem_cons_of_mem _ hw)
  have hown : s.vm.findClass "BlockRuler$Walk" = some m.cls := findClass_of_methodNamed B.named
  have hlocks := B.notSynchronized
  have hin : meth.name = "<init>" := (name_of_methodNamed B.named B.method).1
  subst hsz
  have hD := hD0.self (sz := s.heap.size)
  generalize hAe : va_A [(h0, .inr (2, [.null, .null, .null, .null, .null, .null, .null, .int 0, .long 0]))] s.heap.size = A at hD ⊢
  have hA : ∀ q : Nat, s.heap.size ≤ q → A q := fun q h => by rw [← hAe]; exact Or.inr h
  have hS : va_S A s.heap s.heap [] := va_S.rf
  have hl := lv_entry ([.ref h0, .ref p1]) (n := 2) (Nat.le_of_ble_eq_true rfl)
  rw [lg_entry_eq]
  generalize (lg_sl ([.ref h0, .ref p1]) ++ List.replicate (2 - (lg_sl ([.ref h0, .ref p1])).length) Slot.unset).toArray = ls at hl ⊢
  have hl : lv_has ls 2 [(0, .ref h0), (1, .ref p1)] := hl
  refine lv_aload_n hx hb d_Walk_init_0 rfl (lv_at hl 0 rfl) ?_
  refine W.objInit hx hb hown (hg _ wd275) (hg _ wd272) (hg _ wd273) rfl (by rw [hml]; exact hl.1) rfl d_Walk_init_1 (Nat.le_of_ble_eq_true rfl) (Nat.le_of_ble_eq_true rfl) ?_
  refine W.eq (g2 := F0 m 4 ls []) rfl ?_
  refine lv_aload_n hx hb d_Walk_init_4 rfl (lv_at hl 0 rfl) ?_
  refine lv_aload_n hx hb d_Walk_init_5 rfl (lv_at hl 1 rfl) ?_
  refine va_putF (D := (dC, dI)) (ci := 2) (v := .ref p1) (ty := .object "BlockRuler$Web") (C := "BlockRuler$Walk") (T := F_Walk) (N := 9) hx hb hg i_Walk t_Walk t_Walk_ok n_Walk hown hK hP hD hS 0 rfl rfl 0 (by decide) (hg _ wd39) (fun _ h9 => h9) rfl hin rfl (by decide +kernel) rfl rfl (Nat.le_of_ble_eq_true rfl) d_Walk_init_6 (fun H locs hP hD hS => ?_)
  have hP : va_P (dC, dI) classes [(h0, .inr (2, [.ref p1, .null, .null, .null, .null, .null, .null, .int 0, .long 0]))] H := hP
  have hD : va_D A [(h0, .inr (2, [.ref p1, .null, .null, .null, .null, .null, .null, .int 0, .long 0]))] := hD
  refine lv_aload_n hx hb d_Walk_init_9 rfl (lv_at hl 0 rfl) ?_
  refine lv_bipush (v := 64) hx hb d_Walk_init_10 (by decide) ?_
  refine va_newa (atype := .int) (ty := .int) (N' := 64) (a0 := (64, .inl (fun _ => 0))) hx hb (hg _ wd274) rfl hK hP hD hS hA (fun _ => rfl) (by decide) (by decide) (by decide) (Nat.le_of_ble_eq_true rfl) (Nat.le_of_ble_eq_true rfl) d_Walk_init_12 (fun q1 c2 H hK hP hD hS => ?_)
  have hP : va_P (dC, dI) classes [(h0, .inr (2, [.ref p1, .null, .null, .null, .null, .null, .null, .int 0, .long 0])), (q1, .inl (c2, 64, .inl (fun _ => 0)))] H := hP
  have hD : va_D A [(h0, .inr (2, [.ref p1, .null, .null, .null, .null, .null, .null, .int 0, .long 0])), (q1, .inl (c2, 64, .inl (fun _ => 0)))] := hD
  refine W.widen (k := 1) (n := 64) (by omega) (by omega) ?_
  refine va_putF (D := (dC, dI)) (ci := 2) (v := .ref q1) (ty := .array .int) (C := "BlockRuler$Walk") (T := F_Walk) (N := 9) hx hb hg i_Walk t_Walk t_Walk_ok n_Walk hown hK hP hD hS 0 rfl rfl 1 (by decide) (hg _ wd31) (fun _ h9 => h9) rfl hin rfl (by decide +kernel) rfl rfl (Nat.le_of_ble_eq_true rfl) d_Walk_init_14 (fun H locs hP hD hS => ?_)
  have hP : va_P (dC, dI) classes [(h0, .inr (2, [.ref p1, .ref q1, .null, .null, .null, .null, .null, .int 0, .long 0])), (q1, .inl (c2, 64, .inl (fun _ => 0)))] H := hP
  have hD : va_D A [(h0, .inr (2, [.ref p1, .ref q1, .null, .null, .null, .null, .null, .int 0, .long 0])), (q1, .inl (c2, 64, .inl (fun _ => 0)))] := hD
  refine lv_aload_n hx hb d_Walk_init_17 rfl (lv_at hl 0 rfl) ?_
  refine lv_bipush (v := 64) hx hb d_Walk_init_18 (by decide) ?_
  refine va_newa (atype := .int) (ty := .int) (N' := 64) (a0 := (64, .inl (fun _ => 0))) hx hb (hg _ wd274) rfl hK hP hD hS hA (fun _ => rfl) (by decide) (by decide) (by decide) (Nat.le_of_ble_eq_true rfl) (Nat.le_of_ble_eq_true rfl) d_Walk_init_20 (fun q3 c4 H hK hP hD hS => ?_)
  have hP : va_P (dC, dI) classes [(h0, .inr (2, [.ref p1, .ref q1, .null, .null, .null, .null, .null, .int 0, .long 0])), (q1, .inl (c2, 64, .inl (fun _ => 0))), (q3, .inl (c4, 64, .inl (fun _ => 0)))] H := hP
  have hD : va_D A [(h0, .inr (2, [.ref p1, .ref q1, .null, .null, .null, .null, .null, .int 0, .long 0])), (q1, .inl (c2, 64, .inl (fun _ => 0))), (q3, .inl (c4, 64, .inl (fun _ => 0)))] := hD
  refine W.widen (k := 2) (n := 128) (by omega) (by omega) ?_
  refine va_putF (D := (dC, dI)) (ci := 2) (v := .ref q3) (ty := .array .int) (C := "BlockRuler$Walk") (T := F_Walk) (N := 9) hx hb hg i_Walk t_Walk t_Walk_ok n_Walk hown hK hP hD hS 0 rfl rfl 2 (by decide) (hg _ wd27) (fun _ h9 => h9) rfl hin rfl (by decide +kernel) rfl rfl (Nat.le_of_ble_eq_true rfl) d_Walk_init_22 (fun H locs hP hD hS => ?_)
  have hP : va_P (dC, dI) classes [(h0, .inr (2, [.ref p1, .ref q1, .ref q3, .null, .null, .null, .null, .int 0, .long 0])), (q1, .inl (c2, 64, .inl (fun _ => 0))), (q3, .inl (c4, 64, .inl (fun _ => 0)))] H := hP
  have hD : va_D A [(h0, .inr (2, [.ref p1, .ref q1, .ref q3, .null, .null, .null, .null, .int 0, .long 0])), (q1, .inl (c2, 64, .inl (fun _ => 0))), (q3, .inl (c4, 64, .inl (fun _ => 0)))] := hD
  refine lv_aload_n hx hb d_Walk_init_25 rfl (lv_at hl 0 rfl) ?_
  refine lv_bipush (v := 64) hx hb d_Walk_init_26 (by decide) ?_
  refine va_newa (atype := .int) (ty := .int) (N' := 64) (a0 := (64, .inl (fun _ => 0))) hx hb (hg _ wd274) rfl hK hP hD hS hA (fun _ => rfl) (by decide) (by decide) (by decide) (Nat.le_of_ble_eq_true rfl) (Nat.le_of_ble_eq_true rfl) d_Walk_init_28 (fun q5 c6 H hK hP hD hS => ?_)
  have hP : va_P (dC, dI) classes [(h0, .inr (2, [.ref p1, .ref q1, .ref q3, .null, .null, .null, .null, .int 0, .long 0])), (q1, .inl (c2, 64, .inl (fun _ => 0))), (q3, .inl (c4, 64, .inl (fun _ => 0))), (q5, .inl (c6, 64, .inl (fun _ => 0)))] H := hP
  have hD : va_D A [(h0, .inr (2, [.ref p1, .ref q1, .ref q3, .null, .null, .null, .null, .int 0, .long 0])), (q1, .inl (c2, 64, .inl (fun _ => 0))), (q3, .inl (c4, 64, .inl (fun _ => 0))), (q5, .inl (c6, 64, .inl (fun _ => 0)))] := hD
  refine W.widen (k := 3) (n := 192) (by omega) (by omega) ?_
  refine va_putF (D := (dC, dI)) (ci := 2) (v := .ref q5) (ty := .array .int) (C := "BlockRuler$Walk") (T := F_Walk) (N := 9) hx hb hg i_Walk t_Walk t_Walk_ok n_Walk hown hK hP hD hS 0 rfl rfl 3 (by decide) (hg _ wd38) (fun _ h9 => h9) rfl hin rfl (by decide +kernel) rfl rfl (Nat.le_of_ble_eq_true rfl) d_Walk_init_30 (fun H locs hP hD hS => ?_)
  have hP : va_P (dC, dI) classes [(h0, .inr (2, [.ref p1, .ref q1, .ref q3, .ref q5, .null, .null, .null, .int 0, .long 0])), (q1, .inl (c2, 64, .inl (fun _ => 0))), (q3, .inl (c4, 64, .inl (fun _ => 0))), (q5, .inl (c6, 64, .inl (fun _ => 0)))] H := hP
  have hD : va_D A [(h0, .inr (2, [.ref p1, .ref q1, .ref q3, .ref q5, .null, .null, .null, .int 0, .long 0])), (q1, .inl (c2, 64, .inl (fun _ => 0))), (q3, .inl (c4, 64, .inl (fun _ => 0))), (q5, .inl (c6, 64, .inl (fun _ => 0)))] := hD
  refine lv_aload_n hx hb d_Walk_init_33 rfl (lv_at hl 0 rfl) ?_
  refine lv_bipush (v := 64) hx hb d_Walk_init_34 (by decide) ?_
  refine va_newa (atype := .int) (ty := .int) (N' := 64) (a0 := (64, .inl (fun _ => 0))) hx hb (hg _ wd274) rfl hK hP hD hS hA (fun _ => rfl) (by decide) (by decide) (by decide) (Nat.le_of_ble_eq_true rfl) (Nat.le_of_ble_eq_true rfl) d_Walk_init_36 (fun q7 c8 H hK hP hD hS => ?_)
  have hP : va_P (dC, dI) classes [(h0, .inr (2, [.ref p1, .ref q1, .ref q3, .ref q5, .null, .null, .null, .int 0, .long 0])), (q1, .inl (c2, 64, .inl (fun _ => 0))), (q3, .inl (c4, 64, .inl (fun _ => 0))), (q5, .inl (c6, 64, .inl (fun _ => 0))), (q7, .inl (c8, 64, .inl (fun _ => 0)))] H := hP
  have hD : va_D A [(h0, .inr (2, [.ref p1, .ref q1, .ref q3, .ref q5, .null, .null, .null, .int 0, .long 0])), (q1, .inl (c2, 64, .inl (fun _ => 0))), (q3, .inl (c4, 64, .inl (fun _ => 0))), (q5, .inl (c6, 64, .inl (fun _ => 0))), (q7, .inl (c8, 64, .inl (fun _ => 0)))] := hD
  refine W.widen (k := 4) (n := 256) (by omega) (by omega) ?_
  refine va_putF (D := (dC, dI)) (ci := 2) (v := .ref q7) (ty := .array .int) (C := "BlockRuler$Walk") (T := F_Walk) (N := 9) hx hb hg i_Walk t_Walk t_Walk_ok n_Walk hown hK hP hD hS 0 rfl rfl 4 (by decide) (hg _ wd32) (fun _ h9 => h9) rfl hin rfl (by decide +kernel) rfl rfl (Nat.le_of_ble_eq_true rfl) d_Walk_init_38 (fun H locs hP hD hS => ?_)
  have hP : va_P (dC, dI) classes [(h0, .inr (2, [.ref p1, .ref q1, .ref q3, .ref q5, .ref q7, .null, .null, .int 0, .long 0])), (q1, .inl (c2, 64, .inl (fun _ => 0))), (q3, .inl (c4, 64, .inl (fun _ => 0))), (q5, .inl (c6, 64, .inl (fun _ => 0))), (q7, .inl (c8, 64, .inl (fun _ => 0)))] H := hP
  have hD : va_D A [(h0, .inr (2, [.ref p1, .ref q1, .ref q3, .ref q5, .ref q7, .null, .null, .int 0, .long 0])), (q1, .inl (c2, 64, .inl (fun _ => 0))), (q3, .inl (c4, 64, .inl (fun _ => 0))), (q5, .inl (c6, 64, .inl (fun _ => 0))), (q7, .inl (c8, 64, .inl (fun _ => 0)))] := hD
  refine lv_aload_n hx hb d_Walk_init_41 rfl (lv_at hl 0 rfl) ?_
  refine lv_bipush (v := 64) hx hb d_Walk_init_42 (by decide) ?_
  refine va_newa (atype := .long) (ty := .long) (N' := 64) (a0 := (64, .inr (.inl (fun _ => 0)))) hx hb (hg _ wd276) rfl hK hP hD hS hA (fun _ => rfl) (by decide) (by decide) (by decide) (Nat.le_of_ble_eq_true rfl) (Nat.le_of_ble_eq_true rfl) d_Walk_init_44 (fun q9 c10 H hK hP hD hS => ?_)
  have hP : va_P (dC, dI) classes [(h0, .inr (2, [.ref p1, .ref q1, .ref q3, .ref q5, .ref q7, .null, .null, .int 0, .long 0])), (q1, .inl (c2, 64, .inl (fun _ => 0))), (q3, .inl (c4, 64, .inl (fun _ => 0))), (q5, .inl (c6, 64, .inl (fun _ => 0))), (q7, .inl (c8, 64, .inl (fun _ => 0))), (q9, .inl (c10, 64, .inr (.inl (fun _ => 0))))] H := hP
  have hD : va_D A [(h0, .inr (2, [.ref p1, .ref q1, .ref q3, .ref q5, .ref q7, .null, .null, .int 0, .long 0])), (q1, .inl (c2, 64, .inl (fun _ => 0))), (q3, .inl (c4, 64, .inl (fun _ => 0))), (q5, .inl (c6, 64, .inl (fun _ => 0))), (q7, .inl (c8, 64, .inl (fun _ => 0))), (q9, .inl (c10, 64, .inr (.inl (fun _ => 0))))] := hD
  refine W.widen (k := 5) (n := 320) (by omega) (by omega) ?_
  refine va_putF (D := (dC, dI)) (ci := 2) (v := .ref q9) (ty := .array .long) (C := "BlockRuler$Walk") (T := F_Walk) (N := 9) hx hb hg i_Walk t_Walk t_Walk_ok n_Walk hown hK hP hD hS 0 rfl rfl 5 (by decide) (hg _ wd33) (fun _ h9 => h9) rfl hin rfl (by decide +kernel) rfl rfl (Nat.le_of_ble_eq_true rfl) d_Walk_init_46 (fun H locs hP hD hS => ?_)
  have hP : va_P (dC, dI) classes [(h0, .inr (2, [.ref p1, .ref q1, .ref q3, .ref q5, .ref q7, .ref q9, .null, .int 0, .long 0])), (q1, .inl (c2, 64, .inl (fun _ => 0))), (q3, .inl (c4, 64, .inl (fun _ => 0))), (q5, .inl (c6, 64, .inl (fun _ => 0))), (q7, .inl (c8, 64, .inl (fun _ => 0))), (q9, .inl (c10, 64, .inr (.inl (fun _ => 0))))] H := hP
  have hD : va_D A [(h0, .inr (2, [.ref p1, .ref q1, .ref q3, .ref q5, .ref q7, .ref q9, .null, .int 0, .long 0])), (q1, .inl (c2, 64, .inl (fun _ => 0))), (q3, .inl (c4, 64, .inl (fun _ => 0))), (q5, .inl (c6, 64, .inl (fun _ => 0))), (q7, .inl (c8, 64, .inl (fun _ => 0))), (q9, .inl (c10, 64, .inr (.inl (fun _ => 0))))] := hD
  refine lv_aload_n hx hb d_Walk_init_49 rfl (lv_at hl 0 rfl) ?_
  refine lv_bipush (v := 64) hx hb d_Walk_init_50 (by decide) ?_
  refine va_newa (atype := .int) (ty := .int) (N' := 64) (a0 := (64, .inl (fun _ => 0))) hx hb (hg _ wd274) rfl hK hP hD hS hA (fun _ => rfl) (by decide) (by decide) (by decide) (Nat.le_of_ble_eq_true rfl) (Nat.le_of_ble_eq_true rfl) d_Walk_init_52 (fun q11 c12 H hK hP hD hS => ?_)
  have hP : va_P (dC, dI) classes [(h0, .inr (2, [.ref p1, .ref q1, .ref q3, .ref q5, .ref q7, .ref q9, .null, .int 0, .long 0])), (q1, .inl (c2, 64, .inl (fun _ => 0))), (q3, .inl (c4, 64, .inl (fun _ => 0))), (q5, .inl (c6, 64, .inl (fun _ => 0))), (q7, .inl (c8, 64, .inl (fun _ => 0))), (q9, .inl (c10, 64, .inr (.inl (fun _ => 0)))), (q11, .inl (c12, 64, .inl (fun _ => 0)))] H := hP
  have hD : va_D A [(h0, .inr (2, [.ref p1, .ref q1, .ref q3, .ref q5, .ref q7, .ref q9, .null, .int 0, .long 0])), (q1, .inl (c2, 64, .inl (fun _ => 0))), (q3, .inl (c4, 64, .inl (fun _ => 0))), (q5, .inl (c6, 64, .inl (fun _ => 0))), (q7, .inl (c8, 64, .inl (fun _ => 0))), (q9, .inl (c10, 64, .inr (.inl (fun _ => 0)))), (q11, .inl (c12, 64, .inl (fun _ => 0)))] := hD
  refine W.widen (k := 6) (n := 384) (by omega) (by omega) ?_
  refine va_putF (D := (dC, dI)) (ci := 2) (v := .ref q11) (ty := .array .int) (C := "BlockRuler$Walk") (T := F_Walk) (N := 9) hx hb hg i_Walk t_Walk t_Walk_ok n_Walk hown hK hP hD hS 0 rfl rfl 6 (by decide) (hg _ wd34) (fun _ h9 => h9) rfl hin rfl (by decide +kernel) rfl rfl (Nat.le_of_ble_eq_true rfl) d_Walk_init_54 (fun H locs hP hD hS => ?_)
  have hP : va_P (dC, dI) classes [(h0, .inr (2, [.ref p1, .ref q1, .ref q3, .ref q5, .ref q7, .ref q9, .ref q11, .int 0, .long 0])), (q1, .inl (c2, 64, .inl (fun _ => 0))), (q3, .inl (c4, 64, .inl (fun _ => 0))), (q5, .inl (c6, 64, .inl (fun _ => 0))), (q7, .inl (c8, 64, .inl (fun _ => 0))), (q9, .inl (c10, 64, .inr (.inl (fun _ => 0)))), (q11, .inl (c12, 64, .inl (fun _ => 0)))] H := hP
  have hD : va_D A [(h0, .inr (2, [.ref p1, .ref q1, .ref q3, .ref q5, .ref q7, .ref q9, .ref q11, .int 0, .long 0])), (q1, .inl (c2, 64, .inl (fun _ => 0))), (q3, .inl (c4, 64, .inl (fun _ => 0))), (q5, .inl (c6, 64, .inl (fun _ => 0))), (q7, .inl (c8, 64, .inl (fun _ => 0))), (q9, .inl (c10, 64, .inr (.inl (fun _ => 0)))), (q11, .inl (c12, 64, .inl (fun _ => 0)))] := hD
  refine lv_aload_n hx hb d_Walk_init_57 rfl (lv_at hl 0 rfl) ?_
  refine lv_iconst (v := 0) hx hb d_Walk_init_58 (by decide) ?_
  refine va_put (D := (dC, dI)) (ci := 2) (v := .int 0) (ty := .int) (C := "BlockRuler$Walk") (T := F_Walk) (N := 9) hx hb hg i_Walk t_Walk t_Walk_ok n_Walk hown hK hP hD hS 0 rfl rfl 7 (by decide) (hg _ wd28) (fun _ h9 => h9) rfl (by decide +kernel) rfl rfl (Nat.le_of_ble_eq_true rfl) d_Walk_init_59 (fun H locs hP hD hS => ?_)
  have hP : va_P (dC, dI) classes [(h0, .inr (2, [.ref p1, .ref q1, .ref q3, .ref q5, .ref q7, .ref q9, .ref q11, .int 0, .long 0])), (q1, .inl (c2, 64, .inl (fun _ => 0))), (q3, .inl (c4, 64, .inl (fun _ => 0))), (q5, .inl (c6, 64, .inl (fun _ => 0))), (q7, .inl (c8, 64, .inl (fun _ => 0))), (q9, .inl (c10, 64, .inr (.inl (fun _ => 0)))), (q11, .inl (c12, 64, .inl (fun _ => 0)))] H := hP
  have hD : va_D A [(h0, .inr (2, [.ref p1, .ref q1, .ref q3, .ref q5, .ref q7, .ref q9, .ref q11, .int 0, .long 0])), (q1, .inl (c2, 64, .inl (fun _ => 0))), (q3, .inl (c4, 64, .inl (fun _ => 0))), (q5, .inl (c6, 64, .inl (fun _ => 0))), (q7, .inl (c8, 64, .inl (fun _ => 0))), (q9, .inl (c10, 64, .inr (.inl (fun _ => 0)))), (q11, .inl (c12, 64, .inl (fun _ => 0)))] := hD
  refine lv_aload_n hx hb d_Walk_init_62 rfl (lv_at hl 0 rfl) ?_
  refine lv_lconst (v := 0) hx hb d_Walk_init_63 (by decide) ?_
  refine va_put (D := (dC, dI)) (ci := 2) (v := .long 0) (ty := .long) (C := "BlockRuler$Walk") (T := F_Walk) (N := 9) hx hb hg i_Walk t_Walk t_Walk_ok n_Walk hown hK hP hD hS 0 rfl rfl 8 (by decide) (hg _ wd37) (fun _ h9 => h9) rfl (by decide +kernel) rfl rfl (Nat.le_of_ble_eq_true rfl) d_Walk_init_64 (fun H locs hP hD hS => ?_)
  have hP : va_P (dC, dI) classes [(h0, .inr (2, [.ref p1, .ref q1, .ref q3, .ref q5, .ref q7, .ref q9, .ref q11, .int 0, .long 0])), (q1, .inl (c2, 64, .inl (fun _ => 0))), (q3, .inl (c4, 64, .inl (fun _ => 0))), (q5, .inl (c6, 64, .inl (fun _ => 0))), (q7, .inl (c8, 64, .inl (fun _ => 0))), (q9, .inl (c10, 64, .inr (.inl (fun _ => 0)))), (q11, .inl (c12, 64, .inl (fun _ => 0)))] H := hP
  have hD : va_D A [(h0, .inr (2, [.ref p1, .ref q1, .ref q3, .ref q5, .ref q7, .ref q9, .ref q11, .int 0, .long 0])), (q1, .inl (c2, 64, .inl (fun _ => 0))), (q3, .inl (c4, 64, .inl (fun _ => 0))), (q5, .inl (c6, 64, .inl (fun _ => 0))), (q7, .inl (c8, 64, .inl (fun _ => 0))), (q9, .inl (c10, 64, .inr (.inl (fun _ => 0)))), (q11, .inl (c12, 64, .inl (fun _ => 0)))] := hD
  exact W.vret hx hb hr (fun t ht hW => ⟨⟨(q1, c2, q3, c4, q5, c6, q7, c8, q9, c10, q11, c12), rfl, trivial, by rw [ht]; exact hP, va_K.moved hW.alike hK, hD⟩, hS.F ht⟩) hS.2.2 d_Walk_init_67
def rmi_Rulers : Room := { frames := 1, cells := 1, slots := 64, locals := 12 }
abbrev wi_Rulers : List Cond := Cond.code y_Rulers_init b_Rulers_init 2 none :: G_
abbrev ai_Rulers (dC : Nat → ClassId) (dI : Nat → Nat → Nat) (A : Nat → Prop) (h0 p1 : Nat) (u : Nat × ClassId) (t : State) : Prop := match u with
  | (q1, c2) => va_P (dC, dI) classes [(h0, .inr (3, [.ref p1, .ref q1])), (q1, .inl (c2, 64, .inr (.inl (fun _ => 0))))] t.heap ∧ va_K (dC, dI) classes [(c2, .long)] t ∧ va_D A [(h0, .inr (3, [.ref p1, .ref q1])), (q1, .inl (c2, 64, .inr (.inl (fun _ => 0))))]
set_option maxHeartbeats 4000000 in
set_option maxRecDepth 100000 in
theorem ci_Rulers (l : Launch) (dC : Nat → ClassId) (dI : Nat → Nat → Nat) (h0 p1 : Nat) (sz : Nat) : Met l y_Rulers_init wi_Rulers rmi_Rulers (va_Pc [.ref h0, .ref p1] (fun U => U.heap.size = sz ∧ va_P (dC, dI) classes [(h0, .inr (3, [.null, .null]))] U.heap ∧ va_K (dC, dI) classes [] U ∧ va_D (fun _ => True) [(h0, .inr (3, [.null, .null]))])) (va_Qv (fun _ : Nat × ClassId => True) (ai_Rulers dC dI (va_A [(h0, .inr (3, [.null, .null]))] sz) h0 p1) (va_A [(h0, .inr (3, [.null, .null]))] sz)) 1 64 (va_A [(h0, .inr (3, [.null, .null]))] sz) := by
  refine Met.ofW (cc := b_Rulers_init) (maxL := 2) (ret := none) (by decide) rfl ?_
  intro p e s m args below meth c s₁ B hml hv
  obtain ⟨rfl, hsz, hP, hK, hD0⟩ := hv
  have hx := B.exec
  have hb := B.bytes
  have hr := B.returns
  have hg : ∀ w ∈ G_, w.before _ s = true := fun w hw => atoms_spec (ws := wi_Rulers) B.pre w (List.mem_cons_of_mem _ hw)
  have hown : s.vm.findClass "BlockRuler$Rulers" = some m.cls := findClass_of_methodNamed B.named
  have hlocks := B.notSynchronized
  have hin : meth.name = "<init>" := (name_of_methodNamed B.named B.method).1
  subst hsz
  have hD := hD0.self (sz := s.heap.size)
  generalize hAe : va_A [(h0, .inr (3, [.null, .null]))] s.heap.size = A at hD ⊢
  have hA : ∀ q : Nat, s.heap.size ≤ q → A q := fun q h => by rw [← hAe]; exact Or.inr h
  have hS : va_S A s.heap s.heap [] := va_S.rf
  have hl := lv_entry ([.ref h0, .ref p1]) (n := 2) (Nat.le_of_ble_eq_true rfl)
  rw [lg_entry_eq]
  generalize (lg_sl ([.ref h0, .ref p1]) ++ List.replicate (2 - (lg_sl ([.ref h0, .ref p1])).length) Slot.unset).toArray = ls at hl ⊢
  have hl : lv_has ls 2 [(0, .ref h0), (1, .ref p1)] := hl
  refine lv_aload_n hx hb d_Rulers_init_0 rfl (lv_at hl 0 rfl) ?_
  refine W.objInit hx hb hown (hg _ wd277) (hg _ wd272) (hg _ wd273) rfl (by rw [hml]; exact hl.1) rfl d_Rulers_init_1 (Nat.le_of_ble_eq_true rfl) (Nat.le_of_ble_eq_true rfl) ?_
  refine W.eq (g2 := F0 m 4 ls []) rfl ?_
  refine lv_aload_n hx hb d_Rulers_init_4 rfl (lv_at hl 0 rfl) ?_
  refine lv_aload_n hx hb d_Rulers_init_5 rfl (lv_at hl 1 rfl) ?_
  refine va_putF (D := (dC, dI)) (ci := 3) (v := .ref p1) (ty := .object "BlockRuler$Walk") (C := "BlockRuler$Rulers") (T := F_Rulers) (N := 2) hx hb hg i_Rulers t_Rulers t_Rulers_ok n_Rulers hown hK hP hD hS 0 rfl rfl 0 (by decide) (hg _ wd70) (fun _ h9 => h9) rfl hin rfl (by decide +kernel) rfl rfl (Nat.le_of_ble_eq_true rfl) d_Rulers_init_6 (fun H locs hP hD hS => ?_)
  have hP : va_P (dC, dI) classes [(h0, .inr (3, [.ref p1, .null]))] H := hP
  have hD : va_D A [(h0, .inr (3, [.ref p1, .null]))] := hD
  refine lv_aload_n hx hb d_Rulers_init_9 rfl (lv_at hl 0 rfl) ?_
  refine lv_bipush (v := 64) hx hb d_Rulers_init_10 (by decide) ?_
  refine va_newa (atype := .long) (ty := .long) (N' := 64) (a0 := (64, .inr (.inl (fun _ => 0)))) hx hb (hg _ wd276) rfl hK hP hD hS hA (fun _ => rfl) (by decide) (by decide) (by decide) (Nat.le_of_ble_eq_true rfl) (Nat.le_of_ble_eq_true rfl) d_Rulers_init_12 (fun q1 c2 H hK hP hD hS => ?_)
  have hP : va_P (dC, dI) classes [(h0, .inr (3, [.ref p1, .null])), (q1, .inl (c2, 64, .inr (.inl (fun _ => 0))))] H := hP
  have hD : va_D A [(h0, .inr (3, [.ref p1, .null])), (q1, .inl (c2, 64, .inr (.inl (fun _ => 0))))] := hD
  refine W.widen (k := 1) (n := 64) (by omega) (by omega) ?_
  refine va_putF (D := (dC, dI)) (ci := 3) (v := .ref q1) (ty := .array .long) (C := "BlockRuler$Rulers") (T := F_Rulers) (N := 2) hx hb hg i_Rulers t_Rulers t_Rulers_ok n_Rulers hown hK hP hD hS 0 rfl rfl 1 (by decide) (hg _ wd59) (fun _ h9 => h9) rfl hin rfl (by decide +kernel) rfl rfl (Nat.le_of_ble_eq_true rfl) d_Rulers_init_14 (fun H locs hP hD hS => ?_)
  have hP : va_P (dC, dI) classes [(h0, .inr (3, [.ref p1, .ref q1])), (q1, .inl (c2, 64, .inr (.inl (fun _ => 0))))] H := hP
  have hD : va_D A [(h0, .inr (3, [.ref p1, .ref q1])), (q1, .inl (c2, 64, .inr (.inl (fun _ => 0))))] := hD
  exact W.vret hx hb hr (fun t ht hW => ⟨⟨(q1, c2), rfl, trivial, by rw [ht]; exact hP, va_K.moved hW.alike hK, hD⟩, hS.F ht⟩) hS.2.2 d_Rulers_init_17
def rmi_Loops : Room := { frames := 1, cells := 1, slots := 64, locals := 12 }
abbrev wi_Loops : List Cond := Cond.code y_Loops_init b_Loops_init 4 none :: G_
abbrev ai_Loops (dC : Nat → ClassId) (dI : Nat → Nat → Nat) (A : Nat → Prop) (h0 p1 p2 p3 : Nat) (u : Nat × ClassId) (t : State) : Prop := match u with
  | (q1, c2) => va_P (dC, dI) classes [(h0, .inr (4, [.ref p1, .ref p2, .ref p3, .ref q1, .int 0, .int 0, .int 0])), (q1, .inl (c2, 64, .inr (.inl (fun _ => 0))))] t.heap ∧ va_K (dC, dI) classes [(c2, .long)] t ∧ va_D A [(h0, .inr (4, [.ref p1, .ref p2, .ref p3, .ref q1, .int 0, .int 0, .int 0])), (q1, .inl (c2, 64, .inr (.inl (fun _ => 0))))]
set_option maxHeartbeats 4000000 in
set_option maxRecDepth 100000 in
theorem ci_Loops (l : Launch) (dC : Nat → ClassId) (dI : Nat → Nat → Nat) (h0 p1 p2 p3 : Nat) (sz : Nat) : Met l y_Loops_init wi_Loops rmi_Loops (va_Pc [.ref h0, .ref p1, .ref p2, .ref p3] (fun U => U.heap.size = sz ∧ va_P (dC, dI) classes [(h0, .inr (4, [.null, .null, .null, .null, .int 0, .int 0, .int 0]))] U.heap ∧ va_K (dC, dI) classes [] U ∧ va_D (fun _ => True) [(h0, .inr (4, [.null, .null, .null, .null, .int 0, .int 0, .int 0]))])) (va_Qv (fun _ : Nat × ClassId => True) (ai_Loops dC dI (va_A [(h0, .inr (4, [.null, .null, .null, .null, .int 0, .int 0, .int 0]))] sz) h0 p1 p2 p3) (va_A [(h0, .inr (4, [.null, .null, .null, .null, .int 0, .int 0, .int 0]))] sz)) 1 64 (va_A [(h0, .inr (4, [.null, .null, .null, .null, .int 0, .int 0, .int 0]))] sz) := by
  refine Met.ofW (cc := b_Loops_init) (maxL := 4) (ret := none) (by decide) rfl ?_
  intro p e s m args below meth c s₁ B hml hv
  obtain ⟨rfl, hsz, hP, hK, hD0⟩ := hv
  have hx := B.exec
  have hb := B.bytes
  have hr := B.returns
  have hg : ∀ w ∈ G_, w.before _ s = true := fun w hw => atoms_spec (ws := wi_Loops) B.pre w (List.mem_cons_of_mem _ hw)
  have hown : s.vm.findClass "BlockRuler$Loops" = some m.cls := findClass_of_methodNamed B.named
  have hlocks := B.notSynchronized
  have hin : meth.name = "<init>" := (name_of_methodNamed B.named B.method).1
  subst hsz
  have hD := hD0.self (sz := s.heap.size)
  generalize hAe : va_A [(h0, .inr (4, [.null, .null, .null, .null, .int 0, .int 0, .int 0]))] s.heap.size = A at hD ⊢
  have hA : ∀ q : Nat, s.heap.size ≤ q → A q := fun q h => by rw [← hAe]; exact Or.inr h
  have hS : va_S A s.heap s.heap [] := va_S.rf
  have hl := lv_entry ([.ref h0, .ref p1, .ref p2, .ref p3]) (n := 4) (Nat.le_of_ble_eq_true rfl)
  rw [lg_entry_eq]
  generalize (lg_sl ([.ref h0, .ref p1, .ref p2, .ref p3]) ++ List.replicate (4 - (lg_sl ([.ref h0, .ref p1, .ref p2, .ref p3])).length) Slot.unset).toArray = ls at hl ⊢
  have hl : lv_has ls 4 [(0, .ref h0), (1, .ref p1), (2, .ref p2), (3, .ref p3)] := hl
  refine lv_aload_n hx hb d_Loops_init_0 rfl (lv_at hl 0 rfl) ?_
  refine W.objInit hx hb hown (hg _ wd278) (hg _ wd272) (hg _ wd273) rfl (by rw [hml]; exact hl.1) rfl d_Loops_init_1 (Nat.le_of_ble_eq_true rfl) (Nat.le_of_ble_eq_true rfl) ?_
  refine W.eq (g2 := F0 m 4 ls []) rfl ?_
  refine lv_aload_n hx hb d_Loops_init_4 rfl (lv_at hl 0 rfl) ?_
  refine lv_aload_n hx hb d_Loops_init_5 rfl (lv_at hl 1 rfl) ?_
  refine va_putF (D := (dC, dI)) (ci := 4) (v := .ref p1) (ty := .object "BlockRuler$Web") (C := "BlockRuler$Loops") (T := F_Loops) (N := 7) hx hb hg i_Loops t_Loops t_Loops_ok n_Loops hown hK hP hD hS 0 rfl rfl 0 (by decide) (hg _ wd84) (fun _ h9 => h9) rfl hin rfl (by decide +kernel) rfl rfl (Nat.le_of_ble_eq_true rfl) d_Loops_init_6 (fun H locs hP hD hS => ?_)
  have hP : va_P (dC, dI) classes [(h0, .inr (4, [.ref p1, .null, .null, .null, .int 0, .int 0, .int 0]))] H := hP
  have hD : va_D A [(h0, .inr (4, [.ref p1, .null, .null, .null, .int 0, .int 0, .int 0]))] := hD
  refine lv_aload_n hx hb d_Loops_init_9 rfl (lv_at hl 0 rfl) ?_
  refine lv_aload_n hx hb d_Loops_init_10 rfl (lv_at hl 2 rfl) ?_
  refine va_putF (D := (dC, dI)) (ci := 4) (v := .ref p2) (ty := .object "BlockRuler$Walk") (C := "BlockRuler$Loops") (T := F_Loops) (N := 7) hx hb hg i_Loops t_Loops t_Loops_ok n_Loops hown hK hP hD hS 0 rfl rfl 1 (by decide) (hg _ wd86) (fun _ h9 => h9) rfl hin rfl (by decide +kernel) rfl rfl (Nat.le_of_ble_eq_true rfl) d_Loops_init_11 (fun H locs hP hD hS => ?_)
  have hP : va_P (dC, dI) classes [(h0, .inr (4, [.ref p1, .ref p2, .null, .null, .int 0, .int 0, .int 0]))] H := hP
  have hD : va_D A [(h0, .inr (4, [.ref p1, .ref p2, .null, .null, .int 0, .int 0, .int 0]))] := hD
  refine lv_aload_n hx hb d_Loops_init_14 rfl (lv_at hl 0 rfl) ?_
  refine lv_aload_n hx hb d_Loops_init_15 rfl (lv_at hl 3 rfl) ?_
  refine va_putF (D := (dC, dI)) (ci := 4) (v := .ref p3) (ty := .object "BlockRuler$Rulers") (C := "BlockRuler$Loops") (T := F_Loops) (N := 7) hx hb hg i_Loops t_Loops t_Loops_ok n_Loops hown hK hP hD hS 0 rfl rfl 2 (by decide) (hg _ wd88) (fun _ h9 => h9) rfl hin rfl (by decide +kernel) rfl rfl (Nat.le_of_ble_eq_true rfl) d_Loops_init_16 (fun H locs hP hD hS => ?_)
  have hP : va_P (dC, dI) classes [(h0, .inr (4, [.ref p1, .ref p2, .ref p3, .null, .int 0, .int 0, .int 0]))] H := hP
  have hD : va_D A [(h0, .inr (4, [.ref p1, .ref p2, .ref p3, .null, .int 0, .int 0, .int 0]))] := hD
  refine lv_aload_n hx hb d_Loops_init_19 rfl (lv_at hl 0 rfl) ?_
  refine lv_bipush (v := 64) hx hb d_Loops_init_20 (by decide) ?_
  refine va_newa (atype := .long) (ty := .long) (N' := 64) (a0 := (64, .inr (.inl (fun _ => 0)))) hx hb (hg _ wd276) rfl hK hP hD hS hA (fun _ => rfl) (by decide) (by decide) (by decide) (Nat.le_of_ble_eq_true rfl) (Nat.le_of_ble_eq_true rfl) d_Loops_init_22 (fun q1 c2 H hK hP hD hS => ?_)
  have hP : va_P (dC, dI) classes [(h0, .inr (4, [.ref p1, .ref p2, .ref p3, .null, .int 0, .int 0, .int 0])), (q1, .inl (c2, 64, .inr (.inl (fun _ => 0))))] H := hP
  have hD : va_D A [(h0, .inr (4, [.ref p1, .ref p2, .ref p3, .null, .int 0, .int 0, .int 0])), (q1, .inl (c2, 64, .inr (.inl (fun _ => 0))))] := hD
  refine W.widen (k := 1) (n := 64) (by omega) (by omega) ?_
  refine va_putF (D := (dC, dI)) (ci := 4) (v := .ref q1) (ty := .array .long) (C := "BlockRuler$Loops") (T := F_Loops) (N := 7) hx hb hg i_Loops t_Loops t_Loops_ok n_Loops hown hK hP hD hS 0 rfl rfl 3 (by decide) (hg _ wd90) (fun _ h9 => h9) rfl hin rfl (by decide +kernel) rfl rfl (Nat.le_of_ble_eq_true rfl) d_Loops_init_24 (fun H locs hP hD hS => ?_)
  have hP : va_P (dC, dI) classes [(h0, .inr (4, [.ref p1, .ref p2, .ref p3, .ref q1, .int 0, .int 0, .int 0])), (q1, .inl (c2, 64, .inr (.inl (fun _ => 0))))] H := hP
  have hD : va_D A [(h0, .inr (4, [.ref p1, .ref p2, .ref p3, .ref q1, .int 0, .int 0, .int 0])), (q1, .inl (c2, 64, .inr (.inl (fun _ => 0))))] := hD
  refine lv_aload_n hx hb d_Loops_init_27 rfl (lv_at hl 0 rfl) ?_
  refine lv_iconst (v := 0) hx hb d_Loops_init_28 (by decide) ?_
  refine va_put (D := (dC, dI)) (ci := 4) (v := .int 0) (ty := .int) (C := "BlockRuler$Loops") (T := F_Loops) (N := 7) hx hb hg i_Loops t_Loops t_Loops_ok n_Loops hown hK hP hD hS 0 rfl rfl 4 (by decide) (hg _ wd103) (fun _ h9 => h9) rfl (by decide +kernel) rfl rfl (Nat.le_of_ble_eq_true rfl) d_Loops_init_29 (fun H locs hP hD hS => ?_)
  have hP : va_P (dC, dI) classes [(h0, .inr (4, [.ref p1, .ref p2, .ref p3, .ref q1, .int 0, .int 0, .int 0])), (q1, .inl (c2, 64, .inr (.inl (fun _ => 0))))] H := hP
  have hD : va_D A [(h0, .inr (4, [.ref p1, .ref p2, .ref p3, .ref q1, .int 0, .int 0, .int 0])), (q1, .inl (c2, 64, .inr (.inl (fun _ => 0))))] := hD
  refine lv_aload_n hx hb d_Loops_init_32 rfl (lv_at hl 0 rfl) ?_
  refine lv_iconst (v := 0) hx hb d_Loops_init_33 (by decide) ?_
  refine va_put (D := (dC, dI)) (ci := 4) (v := .int 0) (ty := .int) (C := "BlockRuler$Loops") (T := F_Loops) (N := 7) hx hb hg i_Loops t_Loops t_Loops_ok n_Loops hown hK hP hD hS 0 rfl rfl 5 (by decide) (hg _ wd104) (fun _ h9 => h9) rfl (by decide +kernel) rfl rfl (Nat.le_of_ble_eq_true rfl) d_Loops_init_34 (fun H locs hP hD hS => ?_)
  have hP : va_P (dC, dI) classes [(h0, .inr (4, [.ref p1, .ref p2, .ref p3, .ref q1, .int 0, .int 0, .int 0])), (q1, .inl (c2, 64, .inr (.inl (fun _ => 0))))] H := hP
  have hD : va_D A [(h0, .inr (4, [.ref p1, .ref p2, .ref p3, .ref q1, .int 0, .int 0, .int 0])), (q1, .inl (c2, 64, .inr (.inl (fun _ => 0))))] := hD
  refine lv_aload_n hx hb d_Loops_init_37 rfl (lv_at hl 0 rfl) ?_
  refine lv_iconst (v := 0) hx hb d_Loops_init_38 (by decide) ?_
  refine va_put (D := (dC, dI)) (ci := 4) (v := .int 0) (ty := .int) (C := "BlockRuler$Loops") (T := F_Loops) (N := 7) hx hb hg i_Loops t_Loops t_Loops_ok n_Loops hown hK hP hD hS 0 rfl rfl 6 (by decide) (hg _ wd105) (fun _ h9 => h9) rfl (by decide +kernel) rfl rfl (Nat.le_of_ble_eq_true rfl) d_Loops_init_39 (fun H locs hP hD hS => ?_)
  have hP : va_P (dC, dI) classes [(h0, .inr (4, [.ref p1, .ref p2, .ref p3, .ref q1, .int 0, .int 0, .int 0])), (q1, .inl (c2, 64, .inr (.inl (fun _ => 0))))] H := hP
  have hD : va_D A [(h0, .inr (4, [.ref p1, .ref p2, .ref p3, .ref q1, .int 0, .int 0, .int 0])), (q1, .inl (c2, 64, .inr (.inl (fun _ => 0))))] := hD
  exact W.vret hx hb hr (fun t ht hW => ⟨⟨(q1, c2), rfl, trivial, by rw [ht]; exact hP, va_K.moved hW.alike hK, hD⟩, hS.F ht⟩) hS.2.2 d_Loops_init_42
def rmi_BlockRuler : Room := { frames := 2, cells := 14, slots := 1110, locals := 35 }
abbrev wi_BlockRuler : List Cond := Cond.code y_BlockRuler_init b_BlockRuler_init 1 none :: G_
set_option maxHeartbeats 4000000 in
set_option maxRecDepth 100000 in
theorem ci_BlockRuler (l : Launch) (dC : Nat → ClassId) (dI : Nat → Nat → Nat) (h0 : Nat) (sz : Nat) : Met l y_BlockRuler_init wi_BlockRuler rmi_BlockRuler (va_Pc [.ref h0] (fun U => U.heap.size = sz ∧ va_P (dC, dI) classes [(h0, .inr (0, [.null, .null, .null, .null, .int 0]))] U.heap ∧ va_K (dC, dI) classes [] U ∧ va_D (fun _ => True) [(h0, .inr (0, [.null, .null, .null, .null, .int 0]))])) (va_Qv (fun u : (Nat → Nat) × (Nat → ClassId) => u.1 0 = h0) (fun u t => va_P (dC, dI) classes (wsB u.1 u.2 st0B) t.heap ∧ va_K (dC, dI) classes (tyB u.2) t ∧ va_D (va_A [(h0, .inr (0, [.null, .null, .null, .null, .int 0]))] sz) (wsB u.1 u.2 st0B)) (va_A [(h0, .inr (0, [.null, .null, .null, .null, .int 0]))] sz)) 14 1110 (va_A [(h0, .inr (0, [.null, .null, .null, .null, .int 0]))] sz) := by
  refine Met.ofW (cc := b_BlockRuler_init) (maxL := 1) (ret := none) (by decide) rfl ?_
  intro p e s m args below meth c s₁ B hml hv
  obtain ⟨rfl, hsz, hP, hK, hD0⟩ := hv
  have hx := B.exec
  have hb := B.bytes
  have hr := B.returns
  have hg : ∀ w ∈ G_, w.before _ s = true := fun w hw => atoms_spec (ws := wi_BlockRuler) B.pre w (List.mem_cons_of_mem _ hw)
  have hown : s.vm.findClass "BlockRuler" = some m.cls := findClass_of_methodNamed B.named
  have hlocks := B.notSynchronized
  have hin : meth.name = "<init>" := (name_of_methodNamed B.named B.method).1
  subst hsz
  have hD := hD0.self (sz := s.heap.size)
  generalize hAe : va_A [(h0, .inr (0, [.null, .null, .null, .null, .int 0]))] s.heap.size = A at hD ⊢
  have hA : ∀ q : Nat, s.heap.size ≤ q → A q := fun q h => by rw [← hAe]; exact Or.inr h
  have hS : va_S A s.heap s.heap [] := va_S.rf
  have hl := lv_entry ([.ref h0]) (n := 1) (Nat.le_of_ble_eq_true rfl)
  rw [lg_entry_eq]
  generalize (lg_sl ([.ref h0]) ++ List.replicate (1 - (lg_sl ([.ref h0])).length) Slot.unset).toArray = ls at hl ⊢
  have hl : lv_has ls 1 [(0, .ref h0)] := hl
  refine lv_aload_n hx hb d_BlockRuler_init_0 rfl (lv_at hl 0 rfl) ?_
  refine W.objInit hx hb hown (hg _ wd279) (hg _ wd272) (hg _ wd273) rfl (by rw [hml]; exact hl.1) rfl d_BlockRuler_init_1 (Nat.le_of_ble_eq_true rfl) (Nat.le_of_ble_eq_true rfl) ?_
  refine W.eq (g2 := F0 m 4 ls []) rfl ?_
  refine lv_aload_n hx hb d_BlockRuler_init_4 rfl (lv_at hl 0 rfl) ?_
  refine va_new (ci := 1) (fs := [.null, .null, .int 0, .int 0]) (C := "BlockRuler$Web") (T := F_Web) (N := 4) hx hb hg i_Web t_Web t_Web_ok hown (hg _ wd280) (hg _ wd281) (hg _ wd7) hK hP hD hS hA rfl (fun j hj => by rcases (show j = 0 ∨ j = 1 ∨ j = 2 ∨ j = 3 by omega) with rfl | rfl | rfl | rfl <;> rfl) (Nat.le_of_ble_eq_true rfl) (Nat.le_of_ble_eq_true rfl) d_BlockRuler_init_5 (fun q1 H hP hD hS => ?_)
  have hP : va_P (dC, dI) classes [(h0, .inr (0, [.null, .null, .null, .null, .int 0])), (q1, .inr (1, [.null, .null, .int 0, .int 0]))] H := hP
  have hD : va_D A [(h0, .inr (0, [.null, .null, .null, .null, .int 0])), (q1, .inr (1, [.null, .null, .int 0, .int 0]))] := hD
  refine W.widen (k := 1) (n := 4) (by omega) (by omega) ?_
  refine lv_dup hx hb d_BlockRuler_init_8 rfl ?_
  have hPc := hP.sub (ws' := [(q1, .inr (1, [.null, .null, .int 0, .int 0]))]) [1] rfl
  have hDc := hD.sub (ws' := [(q1, .inr (1, [.null, .null, .int 0, .int 0]))]) [1] (by decide) rfl
  have hKc := hK.sub (tys' := []) [] rfl
  have hFc := va_free (wc := [(q1, .inr (1, [.null, .null, .int 0, .int 0]))]) hD hS hA [1] rfl
  refine va_callv (va_runI (As := []) (rest := [.ref q1, .ref h0]) ⟨hx, hb, hml, hown, hg⟩ (ci_Web l dC dI q1  H.size) (cwI 0 hg (gdC wd282) rfl rfl rfl (hg _ wd7) (hg _ wd283) (hg _ wd284) rfl (by decide +kernel) ⟨Nat.le_of_ble_eq_true rfl, Nat.le_of_ble_eq_true rfl⟩) ⟨ci_blind, fun U hU hW => ⟨rfl, by rw [hU], by rw [hU]; exact hPc, va_K.moved hW.alike hKc, hDc.weaken (fun _ _ _ _ => trivial)⟩⟩ rfl rfl hl.1 rfl (lv_room (Nat.le_of_ble_eq_true rfl)) d_BlockRuler_init_9 ⟨Nat.le_of_ble_eq_true rfl, Nat.le_of_ble_eq_true rfl⟩) hS (fun q _ h => hFc q h) hFc (fun u t H1 locs ht hvm hw hB hz1 hk1 hS => ?_)
  obtain ⟨q2, c3, q4, c5⟩ := u
  obtain ⟨hP1, hK1, hD1⟩ := hB
  rw [ht] at hP1
  have hK1 := va_K.moved hvm.symm hK1
  obtain ⟨hP, hD⟩ := va_join (wr := [(h0, .inr (0, [.null, .null, .null, .null, .int 0]))]) (w1 := [(q1, .inr (1, [.ref q2, .ref q4, .int 1, .int 0])), (q2, .inl (c3, 64, .inl (fun _ => 0))), (q4, .inl (c5, 512, .inl (fun _ => 0)))]) hP hD [1] [0] rfl rfl (by decide) (by decide) hk1 hFc hP1 hD1
  have hK := (hK.sub (tys' := []) [] rfl).app hK1
  generalize H1 = H at hP hS ⊢
  have hP : va_P (dC, dI) classes [(h0, .inr (0, [.null, .null, .null, .null, .int 0])), (q1, .inr (1, [.ref q2, .ref q4, .int 1, .int 0])), (q2, .inl (c3, 64, .inl (fun _ => 0))), (q4, .inl (c5, 512, .inl (fun _ => 0)))] H := hP
  have hD : va_D A [(h0, .inr (0, [.null, .null, .null, .null, .int 0])), (q1, .inr (1, [.ref q2, .ref q4, .int 1, .int 0])), (q2, .inl (c3, 64, .inl (fun _ => 0))), (q4, .inl (c5, 512, .inl (fun _ => 0)))] := hD
  have hK : va_K (dC, dI) classes [(c3, .int), (c5, .int)] s := hK
  refine W.widen (k := 3) (n := 580) (by omega) (by omega) ?_
  refine va_putF (D := (dC, dI)) (ci := 0) (v := .ref q1) (ty := .object "BlockRuler$Web") (C := "BlockRuler") (T := F_BlockRuler) (N := 5) hx hb hg i_BlockRuler t_BlockRuler t_BlockRuler_ok n_BlockRuler hown hK hP hD hS 0 rfl rfl 0 (by decide) (hg _ wd141) (fun _ h9 => h9) rfl hin rfl (by decide +kernel) rfl rfl (Nat.le_of_ble_eq_true rfl) d_BlockRuler_init_12 (fun H locs hP hD hS => ?_)
  have hP : va_P (dC, dI) classes [(h0, .inr (0, [.ref q1, .null, .null, .null, .int 0])), (q1, .inr (1, [.ref q2, .ref q4, .int 1, .int 0])), (q2, .inl (c3, 64, .inl (fun _ => 0))), (q4, .inl (c5, 512, .inl (fun _ => 0)))] H := hP
  have hD : va_D A [(h0, .inr (0, [.ref q1, .null, .null, .null, .int 0])), (q1, .inr (1, [.ref q2, .ref q4, .int 1, .int 0])), (q2, .inl (c3, 64, .inl (fun _ => 0))), (q4, .inl (c5, 512, .inl (fun _ => 0)))] := hD
  refine lv_aload_n hx hb d_BlockRuler_init_15 rfl (lv_at hl 0 rfl) ?_
  refine va_new (ci := 2) (fs := [.null, .null, .null, .null, .null, .null, .null, .int 0, .long 0]) (C := "BlockRuler$Walk") (T := F_Walk) (N := 9) hx hb hg i_Walk t_Walk t_Walk_ok hown (hg _ wd285) (hg _ wd286) (hg _ wd45) hK hP hD hS hA rfl (fun j hj => by rcases (show j = 0 ∨ j = 1 ∨ j = 2 ∨ j = 3 ∨ j = 4 ∨ j = 5 ∨ j = 6 ∨ j = 7 ∨ j = 8 by omega) with rfl | rfl | rfl | rfl | rfl | rfl | rfl | rfl | rfl <;> rfl) (Nat.le_of_ble_eq_true rfl) (Nat.le_of_ble_eq_true rfl) d_BlockRuler_init_16 (fun q6 H hP hD hS => ?_)
  have hP : va_P (dC, dI) classes [(h0, .inr (0, [.ref q1, .null, .null, .null, .int 0])), (q1, .inr (1, [.ref q2, .ref q4, .int 1, .int 0])), (q2, .inl (c3, 64, .inl (fun _ => 0))), (q4, .inl (c5, 512, .inl (fun _ => 0))), (q6, .inr (2, [.null, .null, .null, .null, .null, .null, .null, .int 0, .long 0]))] H := hP
  have hD : va_D A [(h0, .inr (0, [.ref q1, .null, .null, .null, .int 0])), (q1, .inr (1, [.ref q2, .ref q4, .int 1, .int 0])), (q2, .inl (c3, 64, .inl (fun _ => 0))), (q4, .inl (c5, 512, .inl (fun _ => 0))), (q6, .inr (2, [.null, .null, .null, .null, .null, .null, .null, .int 0, .long 0]))] := hD
  refine W.widen (k := 4) (n := 589) (by omega) (by omega) ?_
  refine lv_dup hx hb d_BlockRuler_init_19 rfl ?_
  refine lv_aload_n hx hb d_BlockRuler_init_20 rfl (lv_at hl 0 rfl) ?_
  refine va_get (D := (dC, dI)) (ci := 0) (v := .ref q1) (C := "BlockRuler") (T := F_BlockRuler) (N := 5) hx hb hg i_BlockRuler hown hK hP 0 rfl rfl 0 (by decide) (hg _ wd141) (fun _ h9 => h9) rfl d_BlockRuler_init_21 ?_
  have hPc := hP.sub (ws' := [(q6, .inr (2, [.null, .null, .null, .null, .null, .null, .null, .int 0, .long 0]))]) [4] rfl
  have hDc := hD.sub (ws' := [(q6, .inr (2, [.null, .null, .null, .null, .null, .null, .null, .int 0, .long 0]))]) [4] (by decide) rfl
  have hKc := hK.sub (tys' := []) [] rfl
  have hFc := va_free (wc := [(q6, .inr (2, [.null, .null, .null, .null, .null, .null, .null, .int 0, .long 0]))]) hD hS hA [4] rfl
  refine va_callv (va_runI (As := [.ref q1]) (rest := [.ref q6, .ref h0]) ⟨hx, hb, hml, hown, hg⟩ (ci_Walk l dC dI q6 q1 H.size) (cwI 1 hg (gdC wd287) rfl rfl rfl (hg _ wd45) (hg _ wd288) (hg _ wd289) rfl (by decide +kernel) ⟨Nat.le_of_ble_eq_true rfl, Nat.le_of_ble_eq_true rfl⟩) ⟨ci_blind, fun U hU hW => ⟨rfl, by rw [hU], by rw [hU]; exact hPc, va_K.moved hW.alike hKc, hDc.weaken (fun _ _ _ _ => trivial)⟩⟩ rfl rfl hl.1 rfl (lv_room (Nat.le_of_ble_eq_true rfl)) d_BlockRuler_init_24 ⟨Nat.le_of_ble_eq_true rfl, Nat.le_of_ble_eq_true rfl⟩) hS (fun q _ h => hFc q h) hFc (fun u t H1 locs ht hvm hw hB hz1 hk1 hS => ?_)
  obtain ⟨q7, c8, q9, c10, q11, c12, q13, c14, q15, c16, q17, c18⟩ := u
  obtain ⟨hP1, hK1, hD1⟩ := hB
  rw [ht] at hP1
  have hK1 := va_K.moved hvm.symm hK1
  obtain ⟨hP, hD⟩ := va_join (wr := [(h0, .inr (0, [.ref q1, .null, .null, .null, .int 0])), (q1, .inr (1, [.ref q2, .ref q4, .int 1, .int 0])), (q2, .inl (c3, 64, .inl (fun _ => 0))), (q4, .inl (c5, 512, .inl (fun _ => 0)))]) (w1 := [(q6, .inr (2, [.ref q1, .ref q7, .ref q9, .ref q11, .ref q13, .ref q15, .ref q17, .int 0, .long 0])), (q7, .inl (c8, 64, .inl (fun _ => 0))), (q9, .inl (c10, 64, .inl (fun _ => 0))), (q11, .inl (c12, 64, .inl (fun _ => 0))), (q13, .inl (c14, 64, .inl (fun _ => 0))), (q15, .inl (c16, 64, .inr (.inl (fun _ => 0)))), (q17, .inl (c18, 64, .inl (fun _ => 0)))]) hP hD [4] [0, 1, 2, 3] rfl rfl (by decide) (by decide) hk1 hFc hP1 hD1
  have hK := (hK.sub (tys' := [(c3, .int), (c5, .int)]) [0, 1] rfl).app hK1
  generalize H1 = H at hP hS ⊢
  have hP : va_P (dC, dI) classes [(h0, .inr (0, [.ref q1, .null, .null, .null, .int 0])), (q1, .inr (1, [.ref q2, .ref q4, .int 1, .int 0])), (q2, .inl (c3, 64, .inl (fun _ => 0))), (q4, .inl (c5, 512, .inl (fun _ => 0))), (q6, .inr (2, [.ref q1, .ref q7, .ref q9, .ref q11, .ref q13, .ref q15, .ref q17, .int 0, .long 0])), (q7, .inl (c8, 64, .inl (fun _ => 0))), (q9, .inl (c10, 64, .inl (fun _ => 0))), (q11, .inl (c12, 64, .inl (fun _ => 0))), (q13, .inl (c14, 64, .inl (fun _ => 0))), (q15, .inl (c16, 64, .inr (.inl (fun _ => 0)))), (q17, .inl (c18, 64, .inl (fun _ => 0)))] H := hP
  have hD : va_D A [(h0, .inr (0, [.ref q1, .null, .null, .null, .int 0])), (q1, .inr (1, [.ref q2, .ref q4, .int 1, .int 0])), (q2, .inl (c3, 64, .inl (fun _ => 0))), (q4, .inl (c5, 512, .inl (fun _ => 0))), (q6, .inr (2, [.ref q1, .ref q7, .ref q9, .ref q11, .ref q13, .ref q15, .ref q17, .int 0, .long 0])), (q7, .inl (c8, 64, .inl (fun _ => 0))), (q9, .inl (c10, 64, .inl (fun _ => 0))), (q11, .inl (c12, 64, .inl (fun _ => 0))), (q13, .inl (c14, 64, .inl (fun _ => 0))), (q15, .inl (c16, 64, .inr (.inl (fun _ => 0)))), (q17, .inl (c18, 64, .inl (fun _ => 0)))] := hD
  have hK : va_K (dC, dI) classes [(c3, .int), (c5, .int), (c8, .int), (c10, .int), (c12, .int), (c14, .int), (c16, .long), (c18, .int)] s := hK
  refine W.widen (k := 10) (n := 973) (by omega) (by omega) ?_
  refine va_putF (D := (dC, dI)) (ci := 0) (v := .ref q6) (ty := .object "BlockRuler$Walk") (C := "BlockRuler") (T := F_BlockRuler) (N := 5) hx hb hg i_BlockRuler t_BlockRuler t_BlockRuler_ok n_BlockRuler hown hK hP hD hS 0 rfl rfl 1 (by decide) (hg _ wd126) (fun _ h9 => h9) rfl hin rfl (by decide +kernel) rfl rfl (Nat.le_of_ble_eq_true rfl) d_BlockRuler_init_27 (fun H locs hP hD hS => ?_)
  have hP : va_P (dC, dI) classes [(h0, .inr (0, [.ref q1, .ref q6, .null, .null, .int 0])), (q1, .inr (1, [.ref q2, .ref q4, .int 1, .int 0])), (q2, .inl (c3, 64, .inl (fun _ => 0))), (q4, .inl (c5, 512, .inl (fun _ => 0))), (q6, .inr (2, [.ref q1, .ref q7, .ref q9, .ref q11, .ref q13, .ref q15, .ref q17, .int 0, .long 0])), (q7, .inl (c8, 64, .inl (fun _ => 0))), (q9, .inl (c10, 64, .inl (fun _ => 0))), (q11, .inl (c12, 64, .inl (fun _ => 0))), (q13, .inl (c14, 64, .inl (fun _ => 0))), (q15, .inl (c16, 64, .inr (.inl (fun _ => 0)))), (q17, .inl (c18, 64, .inl (fun _ => 0)))] H := hP
  have hD : va_D A [(h0, .inr (0, [.ref q1, .ref q6, .null, .null, .int 0])), (q1, .inr (1, [.ref q2, .ref q4, .int 1, .int 0])), (q2, .inl (c3, 64, .inl (fun _ => 0))), (q4, .inl (c5, 512, .inl (fun _ => 0))), (q6, .inr (2, [.ref q1, .ref q7, .ref q9, .ref q11, .ref q13, .ref q15, .ref q17, .int 0, .long 0])), (q7, .inl (c8, 64, .inl (fun _ => 0))), (q9, .inl (c10, 64, .inl (fun _ => 0))), (q11, .inl (c12, 64, .inl (fun _ => 0))), (q13, .inl (c14, 64, .inl (fun _ => 0))), (q15, .inl (c16, 64, .inr (.inl (fun _ => 0)))), (q17, .inl (c18, 64, .inl (fun _ => 0)))] := hD
  refine lv_aload_n hx hb d_BlockRuler_init_30 rfl (lv_at hl 0 rfl) ?_
  refine va_new (ci := 3) (fs := [.null, .null]) (C := "BlockRuler$Rulers") (T := F_Rulers) (N := 2) hx hb hg i_Rulers t_Rulers t_Rulers_ok hown (hg _ wd290) (hg _ wd291) (hg _ wd63) hK hP hD hS hA rfl (fun j hj => by rcases (show j = 0 ∨ j = 1 by omega) with rfl | rfl <;> rfl) (Nat.le_of_ble_eq_true rfl) (Nat.le_of_ble_eq_true rfl) d_BlockRuler_init_31 (fun q19 H hP hD hS => ?_)
  have hP : va_P (dC, dI) classes [(h0, .inr (0, [.ref q1, .ref q6, .null, .null, .int 0])), (q1, .inr (1, [.ref q2, .ref q4, .int 1, .int 0])), (q2, .inl (c3, 64, .inl (fun _ => 0))), (q4, .inl (c5, 512, .inl (fun _ => 0))), (q6, .inr (2, [.ref q1, .ref q7, .ref q9, .ref q11, .ref q13, .ref q15, .ref q17, .int 0, .long 0])), (q7, .inl (c8, 64, .inl (fun _ => 0))), (q9, .inl (c10, 64, .inl (fun _ => 0))), (q11, .inl (c12, 64, .inl (fun _ => 0))), (q13, .inl (c14, 64, .inl (fun _ => 0))), (q15, .inl (c16, 64, .inr (.inl (fun _ => 0)))), (q17, .inl (c18, 64, .inl (fun _ => 0))), (q19, .inr (3, [.null, .null]))] H := hP
  have hD : va_D A [(h0, .inr (0, [.ref q1, .ref q6, .null, .null, .int 0])), (q1, .inr (1, [.ref q2, .ref q4, .int 1, .int 0])), (q2, .inl (c3, 64, .inl (fun _ => 0))), (q4, .inl (c5, 512, .inl (fun _ => 0))), (q6, .inr (2, [.ref q1, .ref q7, .ref q9, .ref q11, .ref q13, .ref q15, .ref q17, .int 0, .long 0])), (q7, .inl (c8, 64, .inl (fun _ => 0))), (q9, .inl (c10, 64, .inl (fun _ => 0))), (q11, .inl (c12, 64, .inl (fun _ => 0))), (q13, .inl (c14, 64, .inl (fun _ => 0))), (q15, .inl (c16, 64, .inr (.inl (fun _ => 0)))), (q17, .inl (c18, 64, .inl (fun _ => 0))), (q19, .inr (3, [.null, .null]))] := hD
  refine W.widen (k := 11) (n := 975) (by omega) (by omega) ?_
  refine lv_dup hx hb d_BlockRuler_init_34 rfl ?_
  refine lv_aload_n hx hb d_BlockRuler_init_35 rfl (lv_at hl 0 rfl) ?_
  refine va_get (D := (dC, dI)) (ci := 0) (v := .ref q6) (C := "BlockRuler") (T := F_BlockRuler) (N := 5) hx hb hg i_BlockRuler hown hK hP 0 rfl rfl 1 (by decide) (hg _ wd126) (fun _ h9 => h9) rfl d_BlockRuler_init_36 ?_
  have hPc := hP.sub (ws' := [(q19, .inr (3, [.null, .null]))]) [11] rfl
  have hDc := hD.sub (ws' := [(q19, .inr (3, [.null, .null]))]) [11] (by decide) rfl
  have hKc := hK.sub (tys' := []) [] rfl
  have hFc := va_free (wc := [(q19, .inr (3, [.null, .null]))]) hD hS hA [11] rfl
  refine va_callv (va_runI (As := [.ref q6]) (rest := [.ref q19, .ref h0]) ⟨hx, hb, hml, hown, hg⟩ (ci_Rulers l dC dI q19 q6 H.size) (cwI 1 hg (gdC wd292) rfl rfl rfl (hg _ wd63) (hg _ wd293) (hg _ wd294) rfl (by decide +kernel) ⟨Nat.le_of_ble_eq_true rfl, Nat.le_of_ble_eq_true rfl⟩) ⟨ci_blind, fun U hU hW => ⟨rfl, by rw [hU], by rw [hU]; exact hPc, va_K.moved hW.alike hKc, hDc.weaken (fun _ _ _ _ => trivial)⟩⟩ rfl rfl hl.1 rfl (lv_room (Nat.le_of_ble_eq_true rfl)) d_BlockRuler_init_39 ⟨Nat.le_of_ble_eq_true rfl, Nat.le_of_ble_eq_true rfl⟩) hS (fun q _ h => hFc q h) hFc (fun u t H1 locs ht hvm hw hB hz1 hk1 hS => ?_)
  obtain ⟨q20, c21⟩ := u
  obtain ⟨hP1, hK1, hD1⟩ := hB
  rw [ht] at hP1
  have hK1 := va_K.moved hvm.symm hK1
  obtain ⟨hP, hD⟩ := va_join (wr := [(h0, .inr (0, [.ref q1, .ref q6, .null, .null, .int 0])), (q1, .inr (1, [.ref q2, .ref q4, .int 1, .int 0])), (q2, .inl (c3, 64, .inl (fun _ => 0))), (q4, .inl (c5, 512, .inl (fun _ => 0))), (q6, .inr (2, [.ref q1, .ref q7, .ref q9, .ref q11, .ref q13, .ref q15, .ref q17, .int 0, .long 0])), (q7, .inl (c8, 64, .inl (fun _ => 0))), (q9, .inl (c10, 64, .inl (fun _ => 0))), (q11, .inl (c12, 64, .inl (fun _ => 0))), (q13, .inl (c14, 64, .inl (fun _ => 0))), (q15, .inl (c16, 64, .inr (.inl (fun _ => 0)))), (q17, .inl (c18, 64, .inl (fun _ => 0)))]) (w1 := [(q19, .inr (3, [.ref q6, .ref q20])), (q20, .inl (c21, 64, .inr (.inl (fun _ => 0))))]) hP hD [11] [0, 1, 2, 3, 4, 5, 6, 7, 8, 9, 10] rfl rfl (by decide) (by decide) hk1 hFc hP1 hD1
  have hK := (hK.sub (tys' := [(c3, .int), (c5, .int), (c8, .int), (c10, .int), (c12, .int), (c14, .int), (c16, .long), (c18, .int)]) [0, 1, 2, 3, 4, 5, 6, 7] rfl).app hK1
  generalize H1 = H at hP hS ⊢
  have hP : va_P (dC, dI) classes [(h0, .inr (0, [.ref q1, .ref q6, .null, .null, .int 0])), (q1, .inr (1, [.ref q2, .ref q4, .int 1, .int 0])), (q2, .inl (c3, 64, .inl (fun _ => 0))), (q4, .inl (c5, 512, .inl (fun _ => 0))), (q6, .inr (2, [.ref q1, .ref q7, .ref q9, .ref q11, .ref q13, .ref q15, .ref q17, .int 0, .long 0])), (q7, .inl (c8, 64, .inl (fun _ => 0))), (q9, .inl (c10, 64, .inl (fun _ => 0))), (q11, .inl (c12, 64, .inl (fun _ => 0))), (q13, .inl (c14, 64, .inl (fun _ => 0))), (q15, .inl (c16, 64, .inr (.inl (fun _ => 0)))), (q17, .inl (c18, 64, .inl (fun _ => 0))), (q19, .inr (3, [.ref q6, .ref q20])), (q20, .inl (c21, 64, .inr (.inl (fun _ => 0))))] H := hP
  have hD : va_D A [(h0, .inr (0, [.ref q1, .ref q6, .null, .null, .int 0])), (q1, .inr (1, [.ref q2, .ref q4, .int 1, .int 0])), (q2, .inl (c3, 64, .inl (fun _ => 0))), (q4, .inl (c5, 512, .inl (fun _ => 0))), (q6, .inr (2, [.ref q1, .ref q7, .ref q9, .ref q11, .ref q13, .ref q15, .ref q17, .int 0, .long 0])), (q7, .inl (c8, 64, .inl (fun _ => 0))), (q9, .inl (c10, 64, .inl (fun _ => 0))), (q11, .inl (c12, 64, .inl (fun _ => 0))), (q13, .inl (c14, 64, .inl (fun _ => 0))), (q15, .inl (c16, 64, .inr (.inl (fun _ => 0)))), (q17, .inl (c18, 64, .inl (fun _ => 0))), (q19, .inr (3, [.ref q6, .ref q20])), (q20, .inl (c21, 64, .inr (.inl (fun _ => 0))))] := hD
  have hK : va_K (dC, dI) classes [(c3, .int), (c5, .int), (c8, .int), (c10, .int), (c12, .int), (c14, .int), (c16, .long), (c18, .int), (c21, .long)] s := hK
  refine W.widen (k := 12) (n := 1039) (by omega) (by omega) ?_
  refine va_putF (D := (dC, dI)) (ci := 0) (v := .ref q19) (ty := .object "BlockRuler$Rulers") (C := "BlockRuler") (T := F_BlockRuler) (N := 5) hx hb hg i_BlockRuler t_BlockRuler t_BlockRuler_ok n_BlockRuler hown hK hP hD hS 0 rfl rfl 2 (by decide) (hg _ wd131) (fun _ h9 => h9) rfl hin rfl (by decide +kernel) rfl rfl (Nat.le_of_ble_eq_true rfl) d_BlockRuler_init_42 (fun H locs hP hD hS => ?_)
  have hP : va_P (dC, dI) classes [(h0, .inr (0, [.ref q1, .ref q6, .ref q19, .null, .int 0])), (q1, .inr (1, [.ref q2, .ref q4, .int 1, .int 0])), (q2, .inl (c3, 64, .inl (fun _ => 0))), (q4, .inl (c5, 512, .inl (fun _ => 0))), (q6, .inr (2, [.ref q1, .ref q7, .ref q9, .ref q11, .ref q13, .ref q15, .ref q17, .int 0, .long 0])), (q7, .inl (c8, 64, .inl (fun _ => 0))), (q9, .inl (c10, 64, .inl (fun _ => 0))), (q11, .inl (c12, 64, .inl (fun _ => 0))), (q13, .inl (c14, 64, .inl (fun _ => 0))), (q15, .inl (c16, 64, .inr (.inl (fun _ => 0)))), (q17, .inl (c18, 64, .inl (fun _ => 0))), (q19, .inr (3, [.ref q6, .ref q20])), (q20, .inl (c21, 64, .inr (.inl (fun _ => 0))))] H := hP
  have hD : va_D A [(h0, .inr (0, [.ref q1, .ref q6, .ref q19, .null, .int 0])), (q1, .inr (1, [.ref q2, .ref q4, .int 1, .int 0])), (q2, .inl (c3, 64, .inl (fun _ => 0))), (q4, .inl (c5, 512, .inl (fun _ => 0))), (q6, .inr (2, [.ref q1, .ref q7, .ref q9, .ref q11, .ref q13, .ref q15, .ref q17, .int 0, .long 0])), (q7, .inl (c8, 64, .inl (fun _ => 0))), (q9, .inl (c10, 64, .inl (fun _ => 0))), (q11, .inl (c12, 64, .inl (fun _ => 0))), (q13, .inl (c14, 64, .inl (fun _ => 0))), (q15, .inl (c16, 64, .inr (.inl (fun _ => 0)))), (q17, .inl (c18, 64, .inl (fun _ => 0))), (q19, .inr (3, [.ref q6, .ref q20])), (q20, .inl (c21, 64, .inr (.inl (fun _ => 0))))] := hD
  refine lv_aload_n hx hb d_BlockRuler_init_45 rfl (lv_at hl 0 rfl) ?_
  refine va_new (ci := 4) (fs := [.null, .null, .null, .null, .int 0, .int 0, .int 0]) (C := "BlockRuler$Loops") (T := F_Loops) (N := 7) hx hb hg i_Loops t_Loops t_Loops_ok hown (hg _ wd295) (hg _ wd296) (hg _ wd94) hK hP hD hS hA rfl (fun j hj => by rcases (show j = 0 ∨ j = 1 ∨ j = 2 ∨ j = 3 ∨ j = 4 ∨ j = 5 ∨ j = 6 by omega) with rfl | rfl | rfl | rfl | rfl | rfl | rfl <;> rfl) (Nat.le_of_ble_eq_true rfl) (Nat.le_of_ble_eq_true rfl) d_BlockRuler_init_46 (fun q22 H hP hD hS => ?_)
  have hP : va_P (dC, dI) classes [(h0, .inr (0, [.ref q1, .ref q6, .ref q19, .null, .int 0])), (q1, .inr (1, [.ref q2, .ref q4, .int 1, .int 0])), (q2, .inl (c3, 64, .inl (fun _ => 0))), (q4, .inl (c5, 512, .inl (fun _ => 0))), (q6, .inr (2, [.ref q1, .ref q7, .ref q9, .ref q11, .ref q13, .ref q15, .ref q17, .int 0, .long 0])), (q7, .inl (c8, 64, .inl (fun _ => 0))), (q9, .inl (c10, 64, .inl (fun _ => 0))), (q11, .inl (c12, 64, .inl (fun _ => 0))), (q13, .inl (c14, 64, .inl (fun _ => 0))), (q15, .inl (c16, 64, .inr (.inl (fun _ => 0)))), (q17, .inl (c18, 64, .inl (fun _ => 0))), (q19, .inr (3, [.ref q6, .ref q20])), (q20, .inl (c21, 64, .inr (.inl (fun _ => 0)))), (q22, .inr (4, [.null, .null, .null, .null, .int 0, .int 0, .int 0]))] H := hP
  have hD : va_D A [(h0, .inr (0, [.ref q1, .ref q6, .ref q19, .null, .int 0])), (q1, .inr (1, [.ref q2, .ref q4, .int 1, .int 0])), (q2, .inl (c3, 64, .inl (fun _ => 0))), (q4, .inl (c5, 512, .inl (fun _ => 0))), (q6, .inr (2, [.ref q1, .ref q7, .ref q9, .ref q11, .ref q13, .ref q15, .ref q17, .int 0, .long 0])), (q7, .inl (c8, 64, .inl (fun _ => 0))), (q9, .inl (c10, 64, .inl (fun _ => 0))), (q11, .inl (c12, 64, .inl (fun _ => 0))), (q13, .inl (c14, 64, .inl (fun _ => 0))), (q15, .inl (c16, 64, .inr (.inl (fun _ => 0)))), (q17, .inl (c18, 64, .inl (fun _ => 0))), (q19, .inr (3, [.ref q6, .ref q20])), (q20, .inl (c21, 64, .inr (.inl (fun _ => 0)))), (q22, .inr (4, [.null, .null, .null, .null, .int 0, .int 0, .int 0]))] := hD
  refine W.widen (k := 13) (n := 1046) (by omega) (by omega) ?_
  refine lv_dup hx hb d_BlockRuler_init_49 rfl ?_
  refine lv_aload_n hx hb d_BlockRuler_init_50 rfl (lv_at hl 0 rfl) ?_
  refine va_get (D := (dC, dI)) (ci := 0) (v := .ref q1) (C := "BlockRuler") (T := F_BlockRuler) (N := 5) hx hb hg i_BlockRuler hown hK hP 0 rfl rfl 0 (by decide) (hg _ wd141) (fun _ h9 => h9) rfl d_BlockRuler_init_51 ?_
  refine lv_aload_n hx hb d_BlockRuler_init_54 rfl (lv_at hl 0 rfl) ?_
  refine va_get (D := (dC, dI)) (ci := 0) (v := .ref q6) (C := "BlockRuler") (T := F_BlockRuler) (N := 5) hx hb hg i_BlockRuler hown hK hP 0 rfl rfl 1 (by decide) (hg _ wd126) (fun _ h9 => h9) rfl d_BlockRuler_init_55 ?_
  refine lv_aload_n hx hb d_BlockRuler_init_58 rfl (lv_at hl 0 rfl) ?_
  refine va_get (D := (dC, dI)) (ci := 0) (v := .ref q19) (C := "BlockRuler") (T := F_BlockRuler) (N := 5) hx hb hg i_BlockRuler hown hK hP 0 rfl rfl 2 (by decide) (hg _ wd131) (fun _ h9 => h9) rfl d_BlockRuler_init_59 ?_
  have hPc := hP.sub (ws' := [(q22, .inr (4, [.null, .null, .null, .null, .int 0, .int 0, .int 0]))]) [13] rfl
  have hDc := hD.sub (ws' := [(q22, .inr (4, [.null, .null, .null, .null, .int 0, .int 0, .int 0]))]) [13] (by decide) rfl
  have hKc := hK.sub (tys' := []) [] rfl
  have hFc := va_free (wc := [(q22, .inr (4, [.null, .null, .null, .null, .int 0, .int 0, .int 0]))]) hD hS hA [13] rfl
  refine va_callv (va_runI (As := [.ref q1, .ref q6, .ref q19]) (rest := [.ref q22, .ref h0]) ⟨hx, hb, hml, hown, hg⟩ (ci_Loops l dC dI q22 q1 q6 q19 H.size) (cwI 3 hg (gdC wd297) rfl rfl rfl (hg _ wd94) (hg _ wd298) (hg _ wd299) rfl (by decide +kernel) ⟨Nat.le_of_ble_eq_true rfl, Nat.le_of_ble_eq_true rfl⟩) ⟨ci_blind, fun U hU hW => ⟨rfl, by rw [hU], by rw [hU]; exact hPc, va_K.moved hW.alike hKc, hDc.weaken (fun _ _ _ _ => trivial)⟩⟩ rfl rfl hl.1 rfl (lv_room (Nat.le_of_ble_eq_true rfl)) d_BlockRuler_init_62 ⟨Nat.le_of_ble_eq_true rfl, Nat.le_of_ble_eq_true rfl⟩) hS (fun q _ h => hFc q h) hFc (fun u t H1 locs ht hvm hw hB hz1 hk1 hS => ?_)
  obtain ⟨q23, c24⟩ := u
  obtain ⟨hP1, hK1, hD1⟩ := hB
  rw [ht] at hP1
  have hK1 := va_K.moved hvm.symm hK1
  obtain ⟨hP, hD⟩ := va_join (wr := [(h0, .inr (0, [.ref q1, .ref q6, .ref q19, .null, .int 0])), (q1, .inr (1, [.ref q2, .ref q4, .int 1, .int 0])), (q2, .inl (c3, 64, .inl (fun _ => 0))), (q4, .inl (c5, 512, .inl (fun _ => 0))), (q6, .inr (2, [.ref q1, .ref q7, .ref q9, .ref q11, .ref q13, .ref q15, .ref q17, .int 0, .long 0])), (q7, .inl (c8, 64, .inl (fun _ => 0))), (q9, .inl (c10, 64, .inl (fun _ => 0))), (q11, .inl (c12, 64, .inl (fun _ => 0))), (q13, .inl (c14, 64, .inl (fun _ => 0))), (q15, .inl (c16, 64, .inr (.inl (fun _ => 0)))), (q17, .inl (c18, 64, .inl (fun _ => 0))), (q19, .inr (3, [.ref q6, .ref q20])), (q20, .inl (c21, 64, .inr (.inl (fun _ => 0))))]) (w1 := [(q22, .inr (4, [.ref q1, .ref q6, .ref q19, .ref q23, .int 0, .int 0, .int 0])), (q23, .inl (c24, 64, .inr (.inl (fun _ => 0))))]) hP hD [13] [0, 1, 2, 3, 4, 5, 6, 7, 8, 9, 10, 11, 12] rfl rfl (by decide) (by decide) hk1 hFc hP1 hD1
  have hK := (hK.sub (tys' := [(c3, .int), (c5, .int), (c8, .int), (c10, .int), (c12, .int), (c14, .int), (c16, .long), (c18, .int), (c21, .long)]) [0, 1, 2, 3, 4, 5, 6, 7, 8] rfl).app hK1
  generalize H1 = H at hP hS ⊢
  have hP : va_P (dC, dI) classes [(h0, .inr (0, [.ref q1, .ref q6, .ref q19, .null, .int 0])), (q1, .inr (1, [.ref q2, .ref q4, .int 1, .int 0])), (q2, .inl (c3, 64, .inl (fun _ => 0))), (q4, .inl (c5, 512, .inl (fun _ => 0))), (q6, .inr (2, [.ref q1, .ref q7, .ref q9, .ref q11, .ref q13, .ref q15, .ref q17, .int 0, .long 0])), (q7, .inl (c8, 64, .inl (fun _ => 0))), (q9, .inl (c10, 64, .inl (fun _ => 0))), (q11, .inl (c12, 64, .inl (fun _ => 0))), (q13, .inl (c14, 64, .inl (fun _ => 0))), (q15, .inl (c16, 64, .inr (.inl (fun _ => 0)))), (q17, .inl (c18, 64, .inl (fun _ => 0))), (q19, .inr (3, [.ref q6, .ref q20])), (q20, .inl (c21, 64, .inr (.inl (fun _ => 0)))), (q22, .inr (4, [.ref q1, .ref q6, .ref q19, .ref q23, .int 0, .int 0, .int 0])), (q23, .inl (c24, 64, .inr (.inl (fun _ => 0))))] H := hP
  have hD : va_D A [(h0, .inr (0, [.ref q1, .ref q6, .ref q19, .null, .int 0])), (q1, .inr (1, [.ref q2, .ref q4, .int 1, .int 0])), (q2, .inl (c3, 64, .inl (fun _ => 0))), (q4, .inl (c5, 512, .inl (fun _ => 0))), (q6, .inr (2, [.ref q1, .ref q7, .ref q9, .ref q11, .ref q13, .ref q15, .ref q17, .int 0, .long 0])), (q7, .inl (c8, 64, .inl (fun _ => 0))), (q9, .inl (c10, 64, .inl (fun _ => 0))), (q11, .inl (c12, 64, .inl (fun _ => 0))), (q13, .inl (c14, 64, .inl (fun _ => 0))), (q15, .inl (c16, 64, .inr (.inl (fun _ => 0)))), (q17, .inl (c18, 64, .inl (fun _ => 0))), (q19, .inr (3, [.ref q6, .ref q20])), (q20, .inl (c21, 64, .inr (.inl (fun _ => 0)))), (q22, .inr (4, [.ref q1, .ref q6, .ref q19, .ref q23, .int 0, .int 0, .int 0])), (q23, .inl (c24, 64, .inr (.inl (fun _ => 0))))] := hD
  have hK : va_K (dC, dI) classes [(c3, .int), (c5, .int), (c8, .int), (c10, .int), (c12, .int), (c14, .int), (c16, .long), (c18, .int), (c21, .long), (c24, .long)] s := hK
  refine W.widen (k := 14) (n := 1110) (by omega) (by omega) ?_
  refine va_putF (D := (dC, dI)) (ci := 0) (v := .ref q22) (ty := .object "BlockRuler$Loops") (C := "BlockRuler") (T := F_BlockRuler) (N := 5) hx hb hg i_BlockRuler t_BlockRuler t_BlockRuler_ok n_BlockRuler hown hK hP hD hS 0 rfl rfl 3 (by decide) (hg _ wd136) (fun _ h9 => h9) rfl hin rfl (by decide +kernel) rfl rfl (Nat.le_of_ble_eq_true rfl) d_BlockRuler_init_65 (fun H locs hP hD hS => ?_)
  have hP : va_P (dC, dI) classes [(h0, .inr (0, [.ref q1, .ref q6, .ref q19, .ref q22, .int 0])), (q1, .inr (1, [.ref q2, .ref q4, .int 1, .int 0])), (q2, .inl (c3, 64, .inl (fun _ => 0))), (q4, .inl (c5, 512, .inl (fun _ => 0))), (q6, .inr (2, [.ref q1, .ref q7, .ref q9, .ref q11, .ref q13, .ref q15, .ref q17, .int 0, .long 0])), (q7, .inl (c8, 64, .inl (fun _ => 0))), (q9, .inl (c10, 64, .inl (fun _ => 0))), (q11, .inl (c12, 64, .inl (fun _ => 0))), (q13, .inl (c14, 64, .inl (fun _ => 0))), (q15, .inl (c16, 64, .inr (.inl (fun _ => 0)))), (q17, .inl (c18, 64, .inl (fun _ => 0))), (q19, .inr (3, [.ref q6, .ref q20])), (q20, .inl (c21, 64, .inr (.inl (fun _ => 0)))), (q22, .inr (4, [.ref q1, .ref q6, .ref q19, .ref q23, .int 0, .int 0, .int 0])), (q23, .inl (c24, 64, .inr (.inl (fun _ => 0))))] H := hP
  have hD : va_D A [(h0, .inr (0, [.ref q1, .ref q6, .ref q19, .ref q22, .int 0])), (q1, .inr (1, [.ref q2, .ref q4, .int 1, .int 0])), (q2, .inl (c3, 64, .inl (fun _ => 0))), (q4, .inl (c5, 512, .inl (fun _ => 0))), (q6, .inr (2, [.ref q1, .ref q7, .ref q9, .ref q11, .ref q13, .ref q15, .ref q17, .int 0, .long 0])), (q7, .inl (c8, 64, .inl (fun _ => 0))), (q9, .inl (c10, 64, .inl (fun _ => 0))), (q11, .inl (c12, 64, .inl (fun _ => 0))), (q13, .inl (c14, 64, .inl (fun _ => 0))), (q15, .inl (c16, 64, .inr (.inl (fun _ => 0)))), (q17, .inl (c18, 64, .inl (fun _ => 0))), (q19, .inr (3, [.ref q6, .ref q20])), (q20, .inl (c21, 64, .inr (.inl (fun _ => 0)))), (q22, .inr (4, [.ref q1, .ref q6, .ref q19, .ref q23, .int 0, .int 0, .int 0])), (q23, .inl (c24, 64, .inr (.inl (fun _ => 0))))] := hD
  refine lv_aload_n hx hb d_BlockRuler_init_68 rfl (lv_at hl 0 rfl) ?_
  refine lv_iconst (v := 1) hx hb d_BlockRuler_init_69 (by decide) ?_
  refine va_put (D := (dC, dI)) (ci := 0) (v := .int 1) (ty := .boolean) (C := "BlockRuler") (T := F_BlockRuler) (N := 5) hx hb hg i_BlockRuler t_BlockRuler t_BlockRuler_ok n_BlockRuler hown hK hP hD hS 0 rfl rfl 4 (by decide) (hg _ wd125) (fun _ h9 => h9) rfl (by decide +kernel) rfl rfl (Nat.le_of_ble_eq_true rfl) d_BlockRuler_init_70 (fun H locs hP hD hS => ?_)
  have hP : va_P (dC, dI) classes [(h0, .inr (0, [.ref q1, .ref q6, .ref q19, .ref q22, .int 1])), (q1, .inr (1, [.ref q2, .ref q4, .int 1, .int 0])), (q2, .inl (c3, 64, .inl (fun _ => 0))), (q4, .inl (c5, 512, .inl (fun _ => 0))), (q6, .inr (2, [.ref q1, .ref q7, .ref q9, .ref q11, .ref q13, .ref q15, .ref q17, .int 0, .long 0])), (q7, .inl (c8, 64, .inl (fun _ => 0))), (q9, .inl (c10, 64, .inl (fun _ => 0))), (q11, .inl (c12, 64, .inl (fun _ => 0))), (q13, .inl (c14, 64, .inl (fun _ => 0))), (q15, .inl (c16, 64, .inr (.inl (fun _ => 0)))), (q17, .inl (c18, 64, .inl (fun _ => 0))), (q19, .inr (3, [.ref q6, .ref q20])), (q20, .inl (c21, 64, .inr (.inl (fun _ => 0)))), (q22, .inr (4, [.ref q1, .ref q6, .ref q19, .ref q23, .int 0, .int 0, .int 0])), (q23, .inl (c24, 64, .inr (.inl (fun _ => 0))))] H := hP
  have hD : va_D A [(h0, .inr (0, [.ref q1, .ref q6, .ref q19, .ref q22, .int 1])), (q1, .inr (1, [.ref q2, .ref q4, .int 1, .int 0])), (q2, .inl (c3, 64, .inl (fun _ => 0))), (q4, .inl (c5, 512, .inl (fun _ => 0))), (q6, .inr (2, [.ref q1, .ref q7, .ref q9, .ref q11, .ref q13, .ref q15, .ref q17, .int 0, .long 0])), (q7, .inl (c8, 64, .inl (fun _ => 0))), (q9, .inl (c10, 64, .inl (fun _ => 0))), (q11, .inl (c12, 64, .inl (fun _ => 0))), (q13, .inl (c14, 64, .inl (fun _ => 0))), (q15, .inl (c16, 64, .inr (.inl (fun _ => 0)))), (q17, .inl (c18, 64, .inl (fun _ => 0))), (q19, .inr (3, [.ref q6, .ref q20])), (q20, .inl (c21, 64, .inr (.inl (fun _ => 0)))), (q22, .inr (4, [.ref q1, .ref q6, .ref q19, .ref q23, .int 0, .int 0, .int 0])), (q23, .inl (c24, 64, .inr (.inl (fun _ => 0))))] := hD
  have hP9 : va_P (dC, dI) classes (wsB (fun k => ([h0, q1, q6, q19, q22, q2, q4, q7, q9, q11, q13, q15, q17, q20, q23] : List Nat).getD k 0) (fun k => ([c3, c5, c8, c10, c12, c14, c16, c18, c21, c24] : List ClassId).getD k c3) st0B) H := hP.sub [0, 1, 4, 11, 13, 2, 3, 5, 6, 7, 8, 9, 10, 12, 14] rfl
  have hD9 : va_D A (wsB (fun k => ([h0, q1, q6, q19, q22, q2, q4, q7, q9, q11, q13, q15, q17, q20, q23] : List Nat).getD k 0) (fun k => ([c3, c5, c8, c10, c12, c14, c16, c18, c21, c24] : List ClassId).getD k c3) st0B) := hD.sub [0, 1, 4, 11, 13, 2, 3, 5, 6, 7, 8, 9, 10, 12, 14] (by decide) rfl
  have hK9 : va_K (dC, dI) classes (tyB (fun k => ([c3, c5, c8, c10, c12, c14, c16, c18, c21, c24] : List ClassId).getD k c3)) s := hK.sub [0, 1, 2, 3, 4, 5, 6, 7, 8, 9] rfl
  exact W.vret hx hb hr (fun t ht hW => ⟨⟨((fun k => ([h0, q1, q6, q19, q22, q2, q4, q7, q9, q11, q13, q15, q17, q20, q23] : List Nat).getD k 0), (fun k => ([c3, c5, c8, c10, c12, c14, c16, c18, c21, c24] : List ClassId).getD k c3)), rfl, rfl, by rw [ht]; exact hP9, va_K.moved hW.alike hK9, hD9⟩, hS.F ht⟩) hS.2.2 d_BlockRuler_init_73
def rmi_Model : Room := { frames := 1, cells := 12, slots := 9280, locals := 12 }
abbrev wi_Model : List Cond := Cond.code y_Model_init b_Model_init 1 none :: G_
set_option maxHeartbeats 4000000 in
set_option maxRecDepth 100000 in
theorem ci_Model (l : Launch) (dC : Nat → ClassId) (dI : Nat → Nat → Nat) (h0 : Nat) (sz : Nat) : Met l y_Model_init wi_Model rmi_Model (va_Pc [.ref h0] (fun U => U.heap.size = sz ∧ va_P (dC, dI) classes [(h0, .inr (5, [.int 0, .int 0, .null, .null, .int 0, .int 0, .null, .null, .null, .null, .null, .null, .null, .null, .null, .null]))] U.heap ∧ va_K (dC, dI) classes [] U ∧ va_D (fun _ => True) [(h0, .inr (5, [.int 0, .int 0, .null, .null, .int 0, .int 0, .null, .null, .null, .null, .null, .null, .null, .null, .null, .null]))])) (va_Qv (fun u : (Nat → Nat) × (Nat → ClassId) => u.1 0 = h0) (fun u t => va_P (dC, dI) classes (wsM u.1 u.2 st0M) t.heap ∧ va_K (dC, dI) classes (tyM u.2) t ∧ va_D (va_A [(h0, .inr (5, [.int 0, .int 0, .null, .null, .int 0, .int 0, .null, .null, .null, .null, .null, .null, .null, .null, .null, .null]))] sz) (wsM u.1 u.2 st0M)) (va_A [(h0, .inr (5, [.int 0, .int 0, .null, .null, .int 0, .int 0, .null, .null, .null, .null, .null, .null, .null, .null, .null, .null]))] sz)) 12 9280 (va_A [(h0, .inr (5, [.int 0, .int 0, .null, .null, .int 0, .int 0, .null, .null, .null, .null, .null, .null, .null, .null, .null, .null]))] sz) := by
  refine Met.ofW (cc := b_Model_init) (maxL := 1) (ret := none) (by decide) rfl ?_
  intro p e s m args below meth c s₁ B hml hv
  obtain ⟨rfl, hsz, hP, hK, hD0⟩ := hv
  have hx := B.exec
  have hb := B.bytes
  have hr := B.returns
  have hg : ∀ w ∈ G_, w.before _ s = true := fun w hw => atoms_spec (ws := wi_Model) B.pre w (List.mem_cons_of_mem _ hw)
  have hown : s.vm.findClass "BlockRulerModel" = some m.cls := findClass_of_methodNamed B.named
  have hlocks := B.notSynchronized
  have hin : meth.name = "<init>" := (name_of_methodNamed B.named B.method).1
  subst hsz
  have hD := hD0.self (sz := s.heap.size)
  generalize hAe : va_A [(h0, .inr (5, [.int 0, .int 0, .null, .null, .int 0, .int 0, .null, .null, .null, .null, .null, .null, .null, .null, .null, .null]))] s.heap.size = A at hD ⊢
  have hA : ∀ q : Nat, s.heap.size ≤ q → A q := fun q h => by rw [← hAe]; exact Or.inr h
  have hS : va_S A s.heap s.heap [] := va_S.rf
  have hl := lv_entry ([.ref h0]) (n := 1) (Nat.le_of_ble_eq_true rfl)
  rw [lg_entry_eq]
  generalize (lg_sl ([.ref h0]) ++ List.replicate (1 - (lg_sl ([.ref h0])).length) Slot.unset).toArray = ls at hl ⊢
  have hl : lv_has ls 1 [(0, .ref h0)] := hl
  refine lv_aload_n hx hb d_Model_init_0 rfl (lv_at hl 0 rfl) ?_
  refine W.objInit hx hb hown (hg _ wd300) (hg _ wd272) (hg _ wd273) rfl (by rw [hml]; exact hl.1) rfl d_Model_init_1 (Nat.le_of_ble_eq_true rfl) (Nat.le_of_ble_eq_true rfl) ?_
  refine W.eq (g2 := F0 m 4 ls []) rfl ?_
  refine lv_aload_n hx hb d_Model_init_4 rfl (lv_at hl 0 rfl) ?_
  refine lv_iconst (v := 1) hx hb d_Model_init_5 (by decide) ?_
  refine va_put (D := (dC, dI)) (ci := 5) (v := .int 1) (ty := .int) (C := "BlockRulerModel") (T := F_Model) (N := 16) hx hb hg i_Model t_Model t_Model_ok n_Model hown hK hP hD hS 0 rfl rfl 1 (by decide) (hg _ wd211) (fun _ h9 => h9) rfl (by decide +kernel) rfl rfl (Nat.le_of_ble_eq_true rfl) d_Model_init_6 (fun H locs hP hD hS => ?_)
  have hP : va_P (dC, dI) classes [(h0, .inr (5, [.int 0, .int 1, .null, .null, .int 0, .int 0, .null, .null, .null, .null, .null, .null, .null, .null, .null, .null]))] H := hP
  have hD : va_D A [(h0, .inr (5, [.int 0, .int 1, .null, .null, .int 0, .int 0, .null, .null, .null, .null, .null, .null, .null, .null, .null, .null]))] := hD
  refine lv_aload_n hx hb d_Model_init_9 rfl (lv_at hl 0 rfl) ?_
  refine lv_bipush (v := 64) hx hb d_Model_init_10 (by decide) ?_
  refine va_newa (atype := .int) (ty := .int) (N' := 64) (a0 := (64, .inl (fun _ => 0))) hx hb (hg _ wd274) rfl hK hP hD hS hA (fun _ => rfl) (by decide) (by decide) (by decide) (Nat.le_of_ble_eq_true rfl) (Nat.le_of_ble_eq_true rfl) d_Model_init_12 (fun q1 c2 H hK hP hD hS => ?_)
  have hP : va_P (dC, dI) classes [(h0, .inr (5, [.int 0, .int 1, .null, .null, .int 0, .int 0, .null, .null, .null, .null, .null, .null, .null, .null, .null, .null])), (q1, .inl (c2, 64, .inl (fun _ => 0)))] H := hP
  have hD : va_D A [(h0, .inr (5, [.int 0, .int 1, .null, .null, .int 0, .int 0, .null, .null, .null, .null, .null, .null, .null, .null, .null, .null])), (q1, .inl (c2, 64, .inl (fun _ => 0)))] := hD
  refine W.widen (k := 1) (n := 64) (by omega) (by omega) ?_
  refine va_putF (D := (dC, dI)) (ci := 5) (v := .ref q1) (ty := .array .int) (C := "BlockRulerModel") (T := F_Model) (N := 16) hx hb hg i_Model t_Model t_Model_ok n_Model hown hK hP hD hS 0 rfl rfl 2 (by decide) (hg _ wd217) (fun _ h9 => h9) rfl hin rfl (by decide +kernel) rfl rfl (Nat.le_of_ble_eq_true rfl) d_Model_init_14 (fun H locs hP hD hS => ?_)
  have hP : va_P (dC, dI) classes [(h0, .inr (5, [.int 0, .int 1, .ref q1, .null, .int 0, .int 0, .null, .null, .null, .null, .null, .null, .null, .null, .null, .null])), (q1, .inl (c2, 64, .inl (fun _ => 0)))] H := hP
  have hD : va_D A [(h0, .inr (5, [.int 0, .int 1, .ref q1, .null, .int 0, .int 0, .null, .null, .null, .null, .null, .null, .null, .null, .null, .null])), (q1, .inl (c2, 64, .inl (fun _ => 0)))] := hD
  refine lv_aload_n hx hb d_Model_init_17 rfl (lv_at hl 0 rfl) ?_
  refine lv_sipush (v := 512) hx hb d_Model_init_18 (by decide) ?_
  refine va_newa (atype := .int) (ty := .int) (N' := 512) (a0 := (512, .inl (fun _ => 0))) hx hb (hg _ wd274) rfl hK hP hD hS hA (fun _ => rfl) (by decide) (by decide) (by decide) (Nat.le_of_ble_eq_true rfl) (Nat.le_of_ble_eq_true rfl) d_Model_init_21 (fun q3 c4 H hK hP hD hS => ?_)
  have hP : va_P (dC, dI) classes [(h0, .inr (5, [.int 0, .int 1, .ref q1, .null, .int 0, .int 0, .null, .null, .null, .null, .null, .null, .null, .null, .null, .null])), (q1, .inl (c2, 64, .inl (fun _ => 0))), (q3, .inl (c4, 512, .inl (fun _ => 0)))] H := hP
  have hD : va_D A [(h0, .inr (5, [.int 0, .int 1, .ref q1, .null, .int 0, .int 0, .null, .null, .null, .null, .null, .null, .null, .null, .null, .null])), (q1, .inl (c2, 64, .inl (fun _ => 0))), (q3, .inl (c4, 512, .inl (fun _ => 0)))] := hD
  refine W.widen (k := 2) (n := 576) (by omega) (by omega) ?_
  refine va_putF (D := (dC, dI)) (ci := 5) (v := .ref q3) (ty := .array .int) (C := "BlockRulerModel") (T := F_Model) (N := 16) hx hb hg i_Model t_Model t_Model_ok n_Model hown hK hP hD hS 0 rfl rfl 3 (by decide) (hg _ wd219) (fun _ h9 => h9) rfl hin rfl (by decide +kernel) rfl rfl (Nat.le_of_ble_eq_true rfl) d_Model_init_23 (fun H locs hP hD hS => ?_)
  have hP : va_P (dC, dI) classes [(h0, .inr (5, [.int 0, .int 1, .ref q1, .ref q3, .int 0, .int 0, .null, .null, .null, .null, .null, .null, .null, .null, .null, .null])), (q1, .inl (c2, 64, .inl (fun _ => 0))), (q3, .inl (c4, 512, .inl (fun _ => 0)))] H := hP
  have hD : va_D A [(h0, .inr (5, [.int 0, .int 1, .ref q1, .ref q3, .int 0, .int 0, .null, .null, .null, .null, .null, .null, .null, .null, .null, .null])), (q1, .inl (c2, 64, .inl (fun _ => 0))), (q3, .inl (c4, 512, .inl (fun _ => 0)))] := hD
  refine lv_aload_n hx hb d_Model_init_26 rfl (lv_at hl 0 rfl) ?_
  refine lv_bipush (v := 64) hx hb d_Model_init_27 (by decide) ?_
  refine va_newa (atype := .int) (ty := .int) (N' := 64) (a0 := (64, .inl (fun _ => 0))) hx hb (hg _ wd274) rfl hK hP hD hS hA (fun _ => rfl) (by decide) (by decide) (by decide) (Nat.le_of_ble_eq_true rfl) (Nat.le_of_ble_eq_true rfl) d_Model_init_29 (fun q5 c6 H hK hP hD hS => ?_)
  have hP : va_P (dC, dI) classes [(h0, .inr (5, [.int 0, .int 1, .ref q1, .ref q3, .int 0, .int 0, .null, .null, .null, .null, .null, .null, .null, .null, .null, .null])), (q1, .inl (c2, 64, .inl (fun _ => 0))), (q3, .inl (c4, 512, .inl (fun _ => 0))), (q5, .inl (c6, 64, .inl (fun _ => 0)))] H := hP
  have hD : va_D A [(h0, .inr (5, [.int 0, .int 1, .ref q1, .ref q3, .int 0, .int 0, .null, .null, .null, .null, .null, .null, .null, .null, .null, .null])), (q1, .inl (c2, 64, .inl (fun _ => 0))), (q3, .inl (c4, 512, .inl (fun _ => 0))), (q5, .inl (c6, 64, .inl (fun _ => 0)))] := hD
  refine W.widen (k := 3) (n := 640) (by omega) (by omega) ?_
  refine va_putF (D := (dC, dI)) (ci := 5) (v := .ref q5) (ty := .array .int) (C := "BlockRulerModel") (T := F_Model) (N := 16) hx hb hg i_Model t_Model t_Model_ok n_Model hown hK hP hD hS 0 rfl rfl 6 (by decide) (hg _ wd224) (fun _ h9 => h9) rfl hin rfl (by decide +kernel) rfl rfl (Nat.le_of_ble_eq_true rfl) d_Model_init_31 (fun H locs hP hD hS => ?_)
  have hP : va_P (dC, dI) classes [(h0, .inr (5, [.int 0, .int 1, .ref q1, .ref q3, .int 0, .int 0, .ref q5, .null, .null, .null, .null, .null, .null, .null, .null, .null])), (q1, .inl (c2, 64, .inl (fun _ => 0))), (q3, .inl (c4, 512, .inl (fun _ => 0))), (q5, .inl (c6, 64, .inl (fun _ => 0)))] H := hP
  have hD : va_D A [(h0, .inr (5, [.int 0, .int 1, .ref q1, .ref q3, .int 0, .int 0, .ref q5, .null, .null, .null, .null, .null, .null, .null, .null, .null])), (q1, .inl (c2, 64, .inl (fun _ => 0))), (q3, .inl (c4, 512, .inl (fun _ => 0))), (q5, .inl (c6, 64, .inl (fun _ => 0)))] := hD
  refine lv_aload_n hx hb d_Model_init_34 rfl (lv_at hl 0 rfl) ?_
  refine lv_bipush (v := 64) hx hb d_Model_init_35 (by decide) ?_
  refine va_newa (atype := .int) (ty := .int) (N' := 64) (a0 := (64, .inl (fun _ => 0))) hx hb (hg _ wd274) rfl hK hP hD hS hA (fun _ => rfl) (by decide) (by decide) (by decide) (Nat.le_of_ble_eq_true rfl) (Nat.le_of_ble_eq_true rfl) d_Model_init_37 (fun q7 c8 H hK hP hD hS => ?_)
  have hP : va_P (dC, dI) classes [(h0, .inr (5, [.int 0, .int 1, .ref q1, .ref q3, .int 0, .int 0, .ref q5, .null, .null, .null, .null, .null, .null, .null, .null, .null])), (q1, .inl (c2, 64, .inl (fun _ => 0))), (q3, .inl (c4, 512, .inl (fun _ => 0))), (q5, .inl (c6, 64, .inl (fun _ => 0))), (q7, .inl (c8, 64, .inl (fun _ => 0)))] H := hP
  have hD : va_D A [(h0, .inr (5, [.int 0, .int 1, .ref q1, .ref q3, .int 0, .int 0, .ref q5, .null, .null, .null, .null, .null, .null, .null, .null, .null])), (q1, .inl (c2, 64, .inl (fun _ => 0))), (q3, .inl (c4, 512, .inl (fun _ => 0))), (q5, .inl (c6, 64, .inl (fun _ => 0))), (q7, .inl (c8, 64, .inl (fun _ => 0)))] := hD
  refine W.widen (k := 4) (n := 704) (by omega) (by omega) ?_
  refine va_putF (D := (dC, dI)) (ci := 5) (v := .ref q7) (ty := .array .int) (C := "BlockRulerModel") (T := F_Model) (N := 16) hx hb hg i_Model t_Model t_Model_ok n_Model hown hK hP hD hS 0 rfl rfl 7 (by decide) (hg _ wd229) (fun _ h9 => h9) rfl hin rfl (by decide +kernel) rfl rfl (Nat.le_of_ble_eq_true rfl) d_Model_init_39 (fun H locs hP hD hS => ?_)
  have hP : va_P (dC, dI) classes [(h0, .inr (5, [.int 0, .int 1, .ref q1, .ref q3, .int 0, .int 0, .ref q5, .ref q7, .null, .null, .null, .null, .null, .null, .null, .null])), (q1, .inl (c2, 64, .inl (fun _ => 0))), (q3, .inl (c4, 512, .inl (fun _ => 0))), (q5, .inl (c6, 64, .inl (fun _ => 0))), (q7, .inl (c8, 64, .inl (fun _ => 0)))] H := hP
  have hD : va_D A [(h0, .inr (5, [.int 0, .int 1, .ref q1, .ref q3, .int 0, .int 0, .ref q5, .ref q7, .null, .null, .null, .null, .null, .null, .null, .null])), (q1, .inl (c2, 64, .inl (fun _ => 0))), (q3, .inl (c4, 512, .inl (fun _ => 0))), (q5, .inl (c6, 64, .inl (fun _ => 0))), (q7, .inl (c8, 64, .inl (fun _ => 0)))] := hD
  refine lv_aload_n hx hb d_Model_init_42 rfl (lv_at hl 0 rfl) ?_
  refine lv_sipush (v := 4096) hx hb d_Model_init_43 (by decide) ?_
  refine va_newa (atype := .boolean) (ty := .boolean) (N' := 4096) (a0 := (4096, .inl (fun _ => 0))) hx hb (hg _ wd301) rfl hK hP hD hS hA (fun _ => rfl) (by decide) (by decide) (by decide) (Nat.le_of_ble_eq_true rfl) (Nat.le_of_ble_eq_true rfl) d_Model_init_46 (fun q9 c10 H hK hP hD hS => ?_)
  have hP : va_P (dC, dI) classes [(h0, .inr (5, [.int 0, .int 1, .ref q1, .ref q3, .int 0, .int 0, .ref q5, .ref q7, .null, .null, .null, .null, .null, .null, .null, .null])), (q1, .inl (c2, 64, .inl (fun _ => 0))), (q3, .inl (c4, 512, .inl (fun _ => 0))), (q5, .inl (c6, 64, .inl (fun _ => 0))), (q7, .inl (c8, 64, .inl (fun _ => 0))), (q9, .inl (c10, 4096, .inl (fun _ => 0)))] H := hP
  have hD : va_D A [(h0, .inr (5, [.int 0, .int 1, .ref q1, .ref q3, .int 0, .int 0, .ref q5, .ref q7, .null, .null, .null, .null, .null, .null, .null, .null])), (q1, .inl (c2, 64, .inl (fun _ => 0))), (q3, .inl (c4, 512, .inl (fun _ => 0))), (q5, .inl (c6, 64, .inl (fun _ => 0))), (q7, .inl (c8, 64, .inl (fun _ => 0))), (q9, .inl (c10, 4096, .inl (fun _ => 0)))] := hD
  refine W.widen (k := 5) (n := 4800) (by omega) (by omega) ?_
  refine va_putF (D := (dC, dI)) (ci := 5) (v := .ref q9) (ty := .array .boolean) (C := "BlockRulerModel") (T := F_Model) (N := 16) hx hb hg i_Model t_Model t_Model_ok n_Model hown hK hP hD hS 0 rfl rfl 8 (by decide) (hg _ wd225) (fun _ h9 => h9) rfl hin rfl (by decide +kernel) rfl rfl (Nat.le_of_ble_eq_true rfl) d_Model_init_48 (fun H locs hP hD hS => ?_)
  have hP : va_P (dC, dI) classes [(h0, .inr (5, [.int 0, .int 1, .ref q1, .ref q3, .int 0, .int 0, .ref q5, .ref q7, .ref q9, .null, .null, .null, .null, .null, .null, .null])), (q1, .inl (c2, 64, .inl (fun _ => 0))), (q3, .inl (c4, 512, .inl (fun _ => 0))), (q5, .inl (c6, 64, .inl (fun _ => 0))), (q7, .inl (c8, 64, .inl (fun _ => 0))), (q9, .inl (c10, 4096, .inl (fun _ => 0)))] H := hP
  have hD : va_D A [(h0, .inr (5, [.int 0, .int 1, .ref q1, .ref q3, .int 0, .int 0, .ref q5, .ref q7, .ref q9, .null, .null, .null, .null, .null, .null, .null])), (q1, .inl (c2, 64, .inl (fun _ => 0))), (q3, .inl (c4, 512, .inl (fun _ => 0))), (q5, .inl (c6, 64, .inl (fun _ => 0))), (q7, .inl (c8, 64, .inl (fun _ => 0))), (q9, .inl (c10, 4096, .inl (fun _ => 0)))] := hD
  refine lv_aload_n hx hb d_Model_init_51 rfl (lv_at hl 0 rfl) ?_
  refine lv_bipush (v := 64) hx hb d_Model_init_52 (by decide) ?_
  refine va_newa (atype := .int) (ty := .int) (N' := 64) (a0 := (64, .inl (fun _ => 0))) hx hb (hg _ wd274) rfl hK hP hD hS hA (fun _ => rfl) (by decide) (by decide) (by decide) (Nat.le_of_ble_eq_true rfl) (Nat.le_of_ble_eq_true rfl) d_Model_init_54 (fun q11 c12 H hK hP hD hS => ?_)
  have hP : va_P (dC, dI) classes [(h0, .inr (5, [.int 0, .int 1, .ref q1, .ref q3, .int 0, .int 0, .ref q5, .ref q7, .ref q9, .null, .null, .null, .null, .null, .null, .null])), (q1, .inl (c2, 64, .inl (fun _ => 0))), (q3, .inl (c4, 512, .inl (fun _ => 0))), (q5, .inl (c6, 64, .inl (fun _ => 0))), (q7, .inl (c8, 64, .inl (fun _ => 0))), (q9, .inl (c10, 4096, .inl (fun _ => 0))), (q11, .inl (c12, 64, .inl (fun _ => 0)))] H := hP
  have hD : va_D A [(h0, .inr (5, [.int 0, .int 1, .ref q1, .ref q3, .int 0, .int 0, .ref q5, .ref q7, .ref q9, .null, .null, .null, .null, .null, .null, .null])), (q1, .inl (c2, 64, .inl (fun _ => 0))), (q3, .inl (c4, 512, .inl (fun _ => 0))), (q5, .inl (c6, 64, .inl (fun _ => 0))), (q7, .inl (c8, 64, .inl (fun _ => 0))), (q9, .inl (c10, 4096, .inl (fun _ => 0))), (q11, .inl (c12, 64, .inl (fun _ => 0)))] := hD
  refine W.widen (k := 6) (n := 4864) (by omega) (by omega) ?_
  refine va_putF (D := (dC, dI)) (ci := 5) (v := .ref q11) (ty := .array .int) (C := "BlockRulerModel") (T := F_Model) (N := 16) hx hb hg i_Model t_Model t_Model_ok n_Model hown hK hP hD hS 0 rfl rfl 9 (by decide) (hg _ wd246) (fun _ h9 => h9) rfl hin rfl (by decide +kernel) rfl rfl (Nat.le_of_ble_eq_true rfl) d_Model_init_56 (fun H locs hP hD hS => ?_)
  have hP : va_P (dC, dI) classes [(h0, .inr (5, [.int 0, .int 1, .ref q1, .ref q3, .int 0, .int 0, .ref q5, .ref q7, .ref q9, .ref q11, .null, .null, .null, .null, .null, .null])), (q1, .inl (c2, 64, .inl (fun _ => 0))), (q3, .inl (c4, 512, .inl (fun _ => 0))), (q5, .inl (c6, 64, .inl (fun _ => 0))), (q7, .inl (c8, 64, .inl (fun _ => 0))), (q9, .inl (c10, 4096, .inl (fun _ => 0))), (q11, .inl (c12, 64, .inl (fun _ => 0)))] H := hP
  have hD : va_D A [(h0, .inr (5, [.int 0, .int 1, .ref q1, .ref q3, .int 0, .int 0, .ref q5, .ref q7, .ref q9, .ref q11, .null, .null, .null, .null, .null, .null])), (q1, .inl (c2, 64, .inl (fun _ => 0))), (q3, .inl (c4, 512, .inl (fun _ => 0))), (q5, .inl (c6, 64, .inl (fun _ => 0))), (q7, .inl (c8, 64, .inl (fun _ => 0))), (q9, .inl (c10, 4096, .inl (fun _ => 0))), (q11, .inl (c12, 64, .inl (fun _ => 0)))] := hD
  refine lv_aload_n hx hb d_Model_init_59 rfl (lv_at hl 0 rfl) ?_
  refine lv_bipush (v := 64) hx hb d_Model_init_60 (by decide) ?_
  refine va_newa (atype := .boolean) (ty := .boolean) (N' := 64) (a0 := (64, .inl (fun _ => 0))) hx hb (hg _ wd301) rfl hK hP hD hS hA (fun _ => rfl) (by decide) (by decide) (by decide) (Nat.le_of_ble_eq_true rfl) (Nat.le_of_ble_eq_true rfl) d_Model_init_62 (fun q13 c14 H hK hP hD hS => ?_)
  have hP : va_P (dC, dI) classes [(h0, .inr (5, [.int 0, .int 1, .ref q1, .ref q3, .int 0, .int 0, .ref q5, .ref q7, .ref q9, .ref q11, .null, .null, .null, .null, .null, .null])), (q1, .inl (c2, 64, .inl (fun _ => 0))), (q3, .inl (c4, 512, .inl (fun _ => 0))), (q5, .inl (c6, 64, .inl (fun _ => 0))), (q7, .inl (c8, 64, .inl (fun _ => 0))), (q9, .inl (c10, 4096, .inl (fun _ => 0))), (q11, .inl (c12, 64, .inl (fun _ => 0))), (q13, .inl (c14, 64, .inl (fun _ => 0)))] H := hP
  have hD : va_D A [(h0, .inr (5, [.int 0, .int 1, .ref q1, .ref q3, .int 0, .int 0, .ref q5, .ref q7, .ref q9, .ref q11, .null, .null, .null, .null, .null, .null])), (q1, .inl (c2, 64, .inl (fun _ => 0))), (q3, .inl (c4, 512, .inl (fun _ => 0))), (q5, .inl (c6, 64, .inl (fun _ => 0))), (q7, .inl (c8, 64, .inl (fun _ => 0))), (q9, .inl (c10, 4096, .inl (fun _ => 0))), (q11, .inl (c12, 64, .inl (fun _ => 0))), (q13, .inl (c14, 64, .inl (fun _ => 0)))] := hD
  refine W.widen (k := 7) (n := 4928) (by omega) (by omega) ?_
  refine va_putF (D := (dC, dI)) (ci := 5) (v := .ref q13) (ty := .array .boolean) (C := "BlockRulerModel") (T := F_Model) (N := 16) hx hb hg i_Model t_Model t_Model_ok n_Model hown hK hP hD hS 0 rfl rfl 10 (by decide) (hg _ wd237) (fun _ h9 => h9) rfl hin rfl (by decide +kernel) rfl rfl (Nat.le_of_ble_eq_true rfl) d_Model_init_64 (fun H locs hP hD hS => ?_)
  have hP : va_P (dC, dI) classes [(h0, .inr (5, [.int 0, .int 1, .ref q1, .ref q3, .int 0, .int 0, .ref q5, .ref q7, .ref q9, .ref q11, .ref q13, .null, .null, .null, .null, .null])), (q1, .inl (c2, 64, .inl (fun _ => 0))), (q3, .inl (c4, 512, .inl (fun _ => 0))), (q5, .inl (c6, 64, .inl (fun _ => 0))), (q7, .inl (c8, 64, .inl (fun _ => 0))), (q9, .inl (c10, 4096, .inl (fun _ => 0))), (q11, .inl (c12, 64, .inl (fun _ => 0))), (q13, .inl (c14, 64, .inl (fun _ => 0)))] H := hP
  have hD : va_D A [(h0, .inr (5, [.int 0, .int 1, .ref q1, .ref q3, .int 0, .int 0, .ref q5, .ref q7, .ref q9, .ref q11, .ref q13, .null, .null, .null, .null, .null])), (q1, .inl (c2, 64, .inl (fun _ => 0))), (q3, .inl (c4, 512, .inl (fun _ => 0))), (q5, .inl (c6, 64, .inl (fun _ => 0))), (q7, .inl (c8, 64, .inl (fun _ => 0))), (q9, .inl (c10, 4096, .inl (fun _ => 0))), (q11, .inl (c12, 64, .inl (fun _ => 0))), (q13, .inl (c14, 64, .inl (fun _ => 0)))] := hD
  refine lv_aload_n hx hb d_Model_init_67 rfl (lv_at hl 0 rfl) ?_
  refine lv_sipush (v := 4096) hx hb d_Model_init_68 (by decide) ?_
  refine va_newa (atype := .boolean) (ty := .boolean) (N' := 4096) (a0 := (4096, .inl (fun _ => 0))) hx hb (hg _ wd301) rfl hK hP hD hS hA (fun _ => rfl) (by decide) (by decide) (by decide) (Nat.le_of_ble_eq_true rfl) (Nat.le_of_ble_eq_true rfl) d_Model_init_71 (fun q15 c16 H hK hP hD hS => ?_)
  have hP : va_P (dC, dI) classes [(h0, .inr (5, [.int 0, .int 1, .ref q1, .ref q3, .int 0, .int 0, .ref q5, .ref q7, .ref q9, .ref q11, .ref q13, .null, .null, .null, .null, .null])), (q1, .inl (c2, 64, .inl (fun _ => 0))), (q3, .inl (c4, 512, .inl (fun _ => 0))), (q5, .inl (c6, 64, .inl (fun _ => 0))), (q7, .inl (c8, 64, .inl (fun _ => 0))), (q9, .inl (c10, 4096, .inl (fun _ => 0))), (q11, .inl (c12, 64, .inl (fun _ => 0))), (q13, .inl (c14, 64, .inl (fun _ => 0))), (q15, .inl (c16, 4096, .inl (fun _ => 0)))] H := hP
  have hD : va_D A [(h0, .inr (5, [.int 0, .int 1, .ref q1, .ref q3, .int 0, .int 0, .ref q5, .ref q7, .ref q9, .ref q11, .ref q13, .null, .null, .null, .null, .null])), (q1, .inl (c2, 64, .inl (fun _ => 0))), (q3, .inl (c4, 512, .inl (fun _ => 0))), (q5, .inl (c6, 64, .inl (fun _ => 0))), (q7, .inl (c8, 64, .inl (fun _ => 0))), (q9, .inl (c10, 4096, .inl (fun _ => 0))), (q11, .inl (c12, 64, .inl (fun _ => 0))), (q13, .inl (c14, 64, .inl (fun _ => 0))), (q15, .inl (c16, 4096, .inl (fun _ => 0)))] := hD
  refine W.widen (k := 8) (n := 9024) (by omega) (by omega) ?_
  refine va_putF (D := (dC, dI)) (ci := 5) (v := .ref q15) (ty := .array .boolean) (C := "BlockRulerModel") (T := F_Model) (N := 16) hx hb hg i_Model t_Model t_Model_ok n_Model hown hK hP hD hS 0 rfl rfl 11 (by decide) (hg _ wd236) (fun _ h9 => h9) rfl hin rfl (by decide +kernel) rfl rfl (Nat.le_of_ble_eq_true rfl) d_Model_init_73 (fun H locs hP hD hS => ?_)
  have hP : va_P (dC, dI) classes [(h0, .inr (5, [.int 0, .int 1, .ref q1, .ref q3, .int 0, .int 0, .ref q5, .ref q7, .ref q9, .ref q11, .ref q13, .ref q15, .null, .null, .null, .null])), (q1, .inl (c2, 64, .inl (fun _ => 0))), (q3, .inl (c4, 512, .inl (fun _ => 0))), (q5, .inl (c6, 64, .inl (fun _ => 0))), (q7, .inl (c8, 64, .inl (fun _ => 0))), (q9, .inl (c10, 4096, .inl (fun _ => 0))), (q11, .inl (c12, 64, .inl (fun _ => 0))), (q13, .inl (c14, 64, .inl (fun _ => 0))), (q15, .inl (c16, 4096, .inl (fun _ => 0)))] H := hP
  have hD : va_D A [(h0, .inr (5, [.int 0, .int 1, .ref q1, .ref q3, .int 0, .int 0, .ref q5, .ref q7, .ref q9, .ref q11, .ref q13, .ref q15, .null, .null, .null, .null])), (q1, .inl (c2, 64, .inl (fun _ => 0))), (q3, .inl (c4, 512, .inl (fun _ => 0))), (q5, .inl (c6, 64, .inl (fun _ => 0))), (q7, .inl (c8, 64, .inl (fun _ => 0))), (q9, .inl (c10, 4096, .inl (fun _ => 0))), (q11, .inl (c12, 64, .inl (fun _ => 0))), (q13, .inl (c14, 64, .inl (fun _ => 0))), (q15, .inl (c16, 4096, .inl (fun _ => 0)))] := hD
  refine lv_aload_n hx hb d_Model_init_76 rfl (lv_at hl 0 rfl) ?_
  refine lv_bipush (v := 64) hx hb d_Model_init_77 (by decide) ?_
  refine va_newa (atype := .int) (ty := .int) (N' := 64) (a0 := (64, .inl (fun _ => 0))) hx hb (hg _ wd274) rfl hK hP hD hS hA (fun _ => rfl) (by decide) (by decide) (by decide) (Nat.le_of_ble_eq_true rfl) (Nat.le_of_ble_eq_true rfl) d_Model_init_79 (fun q17 c18 H hK hP hD hS => ?_)
  have hP : va_P (dC, dI) classes [(h0, .inr (5, [.int 0, .int 1, .ref q1, .ref q3, .int 0, .int 0, .ref q5, .ref q7, .ref q9, .ref q11, .ref q13, .ref q15, .null, .null, .null, .null])), (q1, .inl (c2, 64, .inl (fun _ => 0))), (q3, .inl (c4, 512, .inl (fun _ => 0))), (q5, .inl (c6, 64, .inl (fun _ => 0))), (q7, .inl (c8, 64, .inl (fun _ => 0))), (q9, .inl (c10, 4096, .inl (fun _ => 0))), (q11, .inl (c12, 64, .inl (fun _ => 0))), (q13, .inl (c14, 64, .inl (fun _ => 0))), (q15, .inl (c16, 4096, .inl (fun _ => 0))), (q17, .inl (c18, 64, .inl (fun _ => 0)))] H := hP
  have hD : va_D A [(h0, .inr (5, [.int 0, .int 1, .ref q1, .ref q3, .int 0, .int 0, .ref q5, .ref q7, .ref q9, .ref q11, .ref q13, .ref q15, .null, .null, .null, .null])), (q1, .inl (c2, 64, .inl (fun _ => 0))), (q3, .inl (c4, 512, .inl (fun _ => 0))), (q5, .inl (c6, 64, .inl (fun _ => 0))), (q7, .inl (c8, 64, .inl (fun _ => 0))), (q9, .inl (c10, 4096, .inl (fun _ => 0))), (q11, .inl (c12, 64, .inl (fun _ => 0))), (q13, .inl (c14, 64, .inl (fun _ => 0))), (q15, .inl (c16, 4096, .inl (fun _ => 0))), (q17, .inl (c18, 64, .inl (fun _ => 0)))] := hD
  refine W.widen (k := 9) (n := 9088) (by omega) (by omega) ?_
  refine va_putF (D := (dC, dI)) (ci := 5) (v := .ref q17) (ty := .array .int) (C := "BlockRulerModel") (T := F_Model) (N := 16) hx hb hg i_Model t_Model t_Model_ok n_Model hown hK hP hD hS 0 rfl rfl 12 (by decide) (hg _ wd231) (fun _ h9 => h9) rfl hin rfl (by decide +kernel) rfl rfl (Nat.le_of_ble_eq_true rfl) d_Model_init_81 (fun H locs hP hD hS => ?_)
  have hP : va_P (dC, dI) classes [(h0, .inr (5, [.int 0, .int 1, .ref q1, .ref q3, .int 0, .int 0, .ref q5, .ref q7, .ref q9, .ref q11, .ref q13, .ref q15, .ref q17, .null, .null, .null])), (q1, .inl (c2, 64, .inl (fun _ => 0))), (q3, .inl (c4, 512, .inl (fun _ => 0))), (q5, .inl (c6, 64, .inl (fun _ => 0))), (q7, .inl (c8, 64, .inl (fun _ => 0))), (q9, .inl (c10, 4096, .inl (fun _ => 0))), (q11, .inl (c12, 64, .inl (fun _ => 0))), (q13, .inl (c14, 64, .inl (fun _ => 0))), (q15, .inl (c16, 4096, .inl (fun _ => 0))), (q17, .inl (c18, 64, .inl (fun _ => 0)))] H := hP
  have hD : va_D A [(h0, .inr (5, [.int 0, .int 1, .ref q1, .ref q3, .int 0, .int 0, .ref q5, .ref q7, .ref q9, .ref q11, .ref q13, .ref q15, .ref q17, .null, .null, .null])), (q1, .inl (c2, 64, .inl (fun _ => 0))), (q3, .inl (c4, 512, .inl (fun _ => 0))), (q5, .inl (c6, 64, .inl (fun _ => 0))), (q7, .inl (c8, 64, .inl (fun _ => 0))), (q9, .inl (c10, 4096, .inl (fun _ => 0))), (q11, .inl (c12, 64, .inl (fun _ => 0))), (q13, .inl (c14, 64, .inl (fun _ => 0))), (q15, .inl (c16, 4096, .inl (fun _ => 0))), (q17, .inl (c18, 64, .inl (fun _ => 0)))] := hD
  refine lv_aload_n hx hb d_Model_init_84 rfl (lv_at hl 0 rfl) ?_
  refine lv_bipush (v := 64) hx hb d_Model_init_85 (by decide) ?_
  refine va_newa (atype := .boolean) (ty := .boolean) (N' := 64) (a0 := (64, .inl (fun _ => 0))) hx hb (hg _ wd301) rfl hK hP hD hS hA (fun _ => rfl) (by decide) (by decide) (by decide) (Nat.le_of_ble_eq_true rfl) (Nat.le_of_ble_eq_true rfl) d_Model_init_87 (fun q19 c20 H hK hP hD hS => ?_)
  have hP : va_P (dC, dI) classes [(h0, .inr (5, [.int 0, .int 1, .ref q1, .ref q3, .int 0, .int 0, .ref q5, .ref q7, .ref q9, .ref q11, .ref q13, .ref q15, .ref q17, .null, .null, .null])), (q1, .inl (c2, 64, .inl (fun _ => 0))), (q3, .inl (c4, 512, .inl (fun _ => 0))), (q5, .inl (c6, 64, .inl (fun _ => 0))), (q7, .inl (c8, 64, .inl (fun _ => 0))), (q9, .inl (c10, 4096, .inl (fun _ => 0))), (q11, .inl (c12, 64, .inl (fun _ => 0))), (q13, .inl (c14, 64, .inl (fun _ => 0))), (q15, .inl (c16, 4096, .inl (fun _ => 0))), (q17, .inl (c18, 64, .inl (fun _ => 0))), (q19, .inl (c20, 64, .inl (fun _ => 0)))] H := hP
  have hD : va_D A [(h0, .inr (5, [.int 0, .int 1, .ref q1, .ref q3, .int 0, .int 0, .ref q5, .ref q7, .ref q9, .ref q11, .ref q13, .ref q15, .ref q17, .null, .null, .null])), (q1, .inl (c2, 64, .inl (fun _ => 0))), (q3, .inl (c4, 512, .inl (fun _ => 0))), (q5, .inl (c6, 64, .inl (fun _ => 0))), (q7, .inl (c8, 64, .inl (fun _ => 0))), (q9, .inl (c10, 4096, .inl (fun _ => 0))), (q11, .inl (c12, 64, .inl (fun _ => 0))), (q13, .inl (c14, 64, .inl (fun _ => 0))), (q15, .inl (c16, 4096, .inl (fun _ => 0))), (q17, .inl (c18, 64, .inl (fun _ => 0))), (q19, .inl (c20, 64, .inl (fun _ => 0)))] := hD
  refine W.widen (k := 10) (n := 9152) (by omega) (by omega) ?_
  refine va_putF (D := (dC, dI)) (ci := 5) (v := .ref q19) (ty := .array .boolean) (C := "BlockRulerModel") (T := F_Model) (N := 16) hx hb hg i_Model t_Model t_Model_ok n_Model hown hK hP hD hS 0 rfl rfl 13 (by decide) (hg _ wd226) (fun _ h9 => h9) rfl hin rfl (by decide +kernel) rfl rfl (Nat.le_of_ble_eq_true rfl) d_Model_init_89 (fun H locs hP hD hS => ?_)
  have hP : va_P (dC, dI) classes [(h0, .inr (5, [.int 0, .int 1, .ref q1, .ref q3, .int 0, .int 0, .ref q5, .ref q7, .ref q9, .ref q11, .ref q13, .ref q15, .ref q17, .ref q19, .null, .null])), (q1, .inl (c2, 64, .inl (fun _ => 0))), (q3, .inl (c4, 512, .inl (fun _ => 0))), (q5, .inl (c6, 64, .inl (fun _ => 0))), (q7, .inl (c8, 64, .inl (fun _ => 0))), (q9, .inl (c10, 4096, .inl (fun _ => 0))), (q11, .inl (c12, 64, .inl (fun _ => 0))), (q13, .inl (c14, 64, .inl (fun _ => 0))), (q15, .inl (c16, 4096, .inl (fun _ => 0))), (q17, .inl (c18, 64, .inl (fun _ => 0))), (q19, .inl (c20, 64, .inl (fun _ => 0)))] H := hP
  have hD : va_D A [(h0, .inr (5, [.int 0, .int 1, .ref q1, .ref q3, .int 0, .int 0, .ref q5, .ref q7, .ref q9, .ref q11, .ref q13, .ref q15, .ref q17, .ref q19, .null, .null])), (q1, .inl (c2, 64, .inl (fun _ => 0))), (q3, .inl (c4, 512, .inl (fun _ => 0))), (q5, .inl (c6, 64, .inl (fun _ => 0))), (q7, .inl (c8, 64, .inl (fun _ => 0))), (q9, .inl (c10, 4096, .inl (fun _ => 0))), (q11, .inl (c12, 64, .inl (fun _ => 0))), (q13, .inl (c14, 64, .inl (fun _ => 0))), (q15, .inl (c16, 4096, .inl (fun _ => 0))), (q17, .inl (c18, 64, .inl (fun _ => 0))), (q19, .inl (c20, 64, .inl (fun _ => 0)))] := hD
  refine lv_aload_n hx hb d_Model_init_92 rfl (lv_at hl 0 rfl) ?_
  refine lv_bipush (v := 64) hx hb d_Model_init_93 (by decide) ?_
  refine va_newa (atype := .int) (ty := .int) (N' := 64) (a0 := (64, .inl (fun _ => 0))) hx hb (hg _ wd274) rfl hK hP hD hS hA (fun _ => rfl) (by decide) (by decide) (by decide) (Nat.le_of_ble_eq_true rfl) (Nat.le_of_ble_eq_true rfl) d_Model_init_95 (fun q21 c22 H hK hP hD hS => ?_)
  have hP : va_P (dC, dI) classes [(h0, .inr (5, [.int 0, .int 1, .ref q1, .ref q3, .int 0, .int 0, .ref q5, .ref q7, .ref q9, .ref q11, .ref q13, .ref q15, .ref q17, .ref q19, .null, .null])), (q1, .inl (c2, 64, .inl (fun _ => 0))), (q3, .inl (c4, 512, .inl (fun _ => 0))), (q5, .inl (c6, 64, .inl (fun _ => 0))), (q7, .inl (c8, 64, .inl (fun _ => 0))), (q9, .inl (c10, 4096, .inl (fun _ => 0))), (q11, .inl (c12, 64, .inl (fun _ => 0))), (q13, .inl (c14, 64, .inl (fun _ => 0))), (q15, .inl (c16, 4096, .inl (fun _ => 0))), (q17, .inl (c18, 64, .inl (fun _ => 0))), (q19, .inl (c20, 64, .inl (fun _ => 0))), (q21, .inl (c22, 64, .inl (fun _ => 0)))] H := hP
  have hD : va_D A [(h0, .inr (5, [.int 0, .int 1, .ref q1, .ref q3, .int 0, .int 0, .ref q5, .ref q7, .ref q9, .ref q11, .ref q13, .ref q15, .ref q17, .ref q19, .null, .null])), (q1, .inl (c2, 64, .inl (fun _ => 0))), (q3, .inl (c4, 512, .inl (fun _ => 0))), (q5, .inl (c6, 64, .inl (fun _ => 0))), (q7, .inl (c8, 64, .inl (fun _ => 0))), (q9, .inl (c10, 4096, .inl (fun _ => 0))), (q11, .inl (c12, 64, .inl (fun _ => 0))), (q13, .inl (c14, 64, .inl (fun _ => 0))), (q15, .inl (c16, 4096, .inl (fun _ => 0))), (q17, .inl (c18, 64, .inl (fun _ => 0))), (q19, .inl (c20, 64, .inl (fun _ => 0))), (q21, .inl (c22, 64, .inl (fun _ => 0)))] := hD
  refine W.widen (k := 11) (n := 9216) (by omega) (by omega) ?_
  refine va_putF (D := (dC, dI)) (ci := 5) (v := .ref q21) (ty := .array .int) (C := "BlockRulerModel") (T := F_Model) (N := 16) hx hb hg i_Model t_Model t_Model_ok n_Model hown hK hP hD hS 0 rfl rfl 14 (by decide) (hg _ wd227) (fun _ h9 => h9) rfl hin rfl (by decide +kernel) rfl rfl (Nat.le_of_ble_eq_true rfl) d_Model_init_97 (fun H locs hP hD hS => ?_)
  have hP : va_P (dC, dI) classes [(h0, .inr (5, [.int 0, .int 1, .ref q1, .ref q3, .int 0, .int 0, .ref q5, .ref q7, .ref q9, .ref q11, .ref q13, .ref q15, .ref q17, .ref q19, .ref q21, .null])), (q1, .inl (c2, 64, .inl (fun _ => 0))), (q3, .inl (c4, 512, .inl (fun _ => 0))), (q5, .inl (c6, 64, .inl (fun _ => 0))), (q7, .inl (c8, 64, .inl (fun _ => 0))), (q9, .inl (c10, 4096, .inl (fun _ => 0))), (q11, .inl (c12, 64, .inl (fun _ => 0))), (q13, .inl (c14, 64, .inl (fun _ => 0))), (q15, .inl (c16, 4096, .inl (fun _ => 0))), (q17, .inl (c18, 64, .inl (fun _ => 0))), (q19, .inl (c20, 64, .inl (fun _ => 0))), (q21, .inl (c22, 64, .inl (fun _ => 0)))] H := hP
  have hD : va_D A [(h0, .inr (5, [.int 0, .int 1, .ref q1, .ref q3, .int 0, .int 0, .ref q5, .ref q7, .ref q9, .ref q11, .ref q13, .ref q15, .ref q17, .ref q19, .ref q21, .null])), (q1, .inl (c2, 64, .inl (fun _ => 0))), (q3, .inl (c4, 512, .inl (fun _ => 0))), (q5, .inl (c6, 64, .inl (fun _ => 0))), (q7, .inl (c8, 64, .inl (fun _ => 0))), (q9, .inl (c10, 4096, .inl (fun _ => 0))), (q11, .inl (c12, 64, .inl (fun _ => 0))), (q13, .inl (c14, 64, .inl (fun _ => 0))), (q15, .inl (c16, 4096, .inl (fun _ => 0))), (q17, .inl (c18, 64, .inl (fun _ => 0))), (q19, .inl (c20, 64, .inl (fun _ => 0))), (q21, .inl (c22, 64, .inl (fun _ => 0)))] := hD
  refine lv_aload_n hx hb d_Model_init_100 rfl (lv_at hl 0 rfl) ?_
  refine lv_bipush (v := 64) hx hb d_Model_init_101 (by decide) ?_
  refine va_newa (atype := .int) (ty := .int) (N' := 64) (a0 := (64, .inl (fun _ => 0))) hx hb (hg _ wd274) rfl hK hP hD hS hA (fun _ => rfl) (by decide) (by decide) (by decide) (Nat.le_of_ble_eq_true rfl) (Nat.le_of_ble_eq_true rfl) d_Model_init_103 (fun q23 c24 H hK hP hD hS => ?_)
  have hP : va_P (dC, dI) classes [(h0, .inr (5, [.int 0, .int 1, .ref q1, .ref q3, .int 0, .int 0, .ref q5, .ref q7, .ref q9, .ref q11, .ref q13, .ref q15, .ref q17, .ref q19, .ref q21, .null])), (q1, .inl (c2, 64, .inl (fun _ => 0))), (q3, .inl (c4, 512, .inl (fun _ => 0))), (q5, .inl (c6, 64, .inl (fun _ => 0))), (q7, .inl (c8, 64, .inl (fun _ => 0))), (q9, .inl (c10, 4096, .inl (fun _ => 0))), (q11, .inl (c12, 64, .inl (fun _ => 0))), (q13, .inl (c14, 64, .inl (fun _ => 0))), (q15, .inl (c16, 4096, .inl (fun _ => 0))), (q17, .inl (c18, 64, .inl (fun _ => 0))), (q19, .inl (c20, 64, .inl (fun _ => 0))), (q21, .inl (c22, 64, .inl (fun _ => 0))), (q23, .inl (c24, 64, .inl (fun _ => 0)))] H := hP
  have hD : va_D A [(h0, .inr (5, [.int 0, .int 1, .ref q1, .ref q3, .int 0, .int 0, .ref q5, .ref q7, .ref q9, .ref q11, .ref q13, .ref q15, .ref q17, .ref q19, .ref q21, .null])), (q1, .inl (c2, 64, .inl (fun _ => 0))), (q3, .inl (c4, 512, .inl (fun _ => 0))), (q5, .inl (c6, 64, .inl (fun _ => 0))), (q7, .inl (c8, 64, .inl (fun _ => 0))), (q9, .inl (c10, 4096, .inl (fun _ => 0))), (q11, .inl (c12, 64, .inl (fun _ => 0))), (q13, .inl (c14, 64, .inl (fun _ => 0))), (q15, .inl (c16, 4096, .inl (fun _ => 0))), (q17, .inl (c18, 64, .inl (fun _ => 0))), (q19, .inl (c20, 64, .inl (fun _ => 0))), (q21, .inl (c22, 64, .inl (fun _ => 0))), (q23, .inl (c24, 64, .inl (fun _ => 0)))] := hD
  refine W.widen (k := 12) (n := 9280) (by omega) (by omega) ?_
  refine va_putF (D := (dC, dI)) (ci := 5) (v := .ref q23) (ty := .array .int) (C := "BlockRulerModel") (T := F_Model) (N := 16) hx hb hg i_Model t_Model t_Model_ok n_Model hown hK hP hD hS 0 rfl rfl 15 (by decide) (hg _ wd228) (fun _ h9 => h9) rfl hin rfl (by decide +kernel) rfl rfl (Nat.le_of_ble_eq_true rfl) d_Model_init_105 (fun H locs hP hD hS => ?_)
  have hP : va_P (dC, dI) classes [(h0, .inr (5, [.int 0, .int 1, .ref q1, .ref q3, .int 0, .int 0, .ref q5, .ref q7, .ref q9, .ref q11, .ref q13, .ref q15, .ref q17, .ref q19, .ref q21, .ref q23])), (q1, .inl (c2, 64, .inl (fun _ => 0))), (q3, .inl (c4, 512, .inl (fun _ => 0))), (q5, .inl (c6, 64, .inl (fun _ => 0))), (q7, .inl (c8, 64, .inl (fun _ => 0))), (q9, .inl (c10, 4096, .inl (fun _ => 0))), (q11, .inl (c12, 64, .inl (fun _ => 0))), (q13, .inl (c14, 64, .inl (fun _ => 0))), (q15, .inl (c16, 4096, .inl (fun _ => 0))), (q17, .inl (c18, 64, .inl (fun _ => 0))), (q19, .inl (c20, 64, .inl (fun _ => 0))), (q21, .inl (c22, 64, .inl (fun _ => 0))), (q23, .inl (c24, 64, .inl (fun _ => 0)))] H := hP
  have hD : va_D A [(h0, .inr (5, [.int 0, .int 1, .ref q1, .ref q3, .int 0, .int 0, .ref q5, .ref q7, .ref q9, .ref q11, .ref q13, .ref q15, .ref q17, .ref q19, .ref q21, .ref q23])), (q1, .inl (c2, 64, .inl (fun _ => 0))), (q3, .inl (c4, 512, .inl (fun _ => 0))), (q5, .inl (c6, 64, .inl (fun _ => 0))), (q7, .inl (c8, 64, .inl (fun _ => 0))), (q9, .inl (c10, 4096, .inl (fun _ => 0))), (q11, .inl (c12, 64, .inl (fun _ => 0))), (q13, .inl (c14, 64, .inl (fun _ => 0))), (q15, .inl (c16, 4096, .inl (fun _ => 0))), (q17, .inl (c18, 64, .inl (fun _ => 0))), (q19, .inl (c20, 64, .inl (fun _ => 0))), (q21, .inl (c22, 64, .inl (fun _ => 0))), (q23, .inl (c24, 64, .inl (fun _ => 0)))] := hD
  have hP9 : va_P (dC, dI) classes (wsM (fun k => ([h0, q1, q3, q5, q7, q9, q11, q13, q15, q17, q19, q21, q23] : List Nat).getD k 0) (fun k => ([c2, c4, c6, c8, c10, c12, c14, c16, c18, c20, c22, c24] : List ClassId).getD k c2) st0M) H := hP.sub [0, 1, 2, 3, 4, 5, 6, 7, 8, 9, 10, 11, 12] rfl
  have hD9 : va_D A (wsM (fun k => ([h0, q1, q3, q5, q7, q9, q11, q13, q15, q17, q19, q21, q23] : List Nat).getD k 0) (fun k => ([c2, c4, c6, c8, c10, c12, c14, c16, c18, c20, c22, c24] : List ClassId).getD k c2) st0M) := hD.sub [0, 1, 2, 3, 4, 5, 6, 7, 8, 9, 10, 11, 12] (by decide) rfl
  have hK9 : va_K (dC, dI) classes (tyM (fun k => ([c2, c4, c6, c8, c10, c12, c14, c16, c18, c20, c22, c24] : List ClassId).getD k c2)) s := hK.sub [0, 1, 2, 3, 4, 5, 6, 7, 8, 9, 10, 11] rfl
  exact W.vret hx hb hr (fun t ht hW => ⟨⟨((fun k => ([h0, q1, q3, q5, q7, q9, q11, q13, q15, q17, q19, q21, q23] : List Nat).getD k 0), (fun k => ([c2, c4, c6, c8, c10, c12, c14, c16, c18, c20, c22, c24] : List ClassId).getD k c2)), rfl, rfl, by rw [ht]; exact hP9, va_K.moved hW.alike hK9, hD9⟩, hS.F ht⟩) hS.2.2 d_Model_init_108
