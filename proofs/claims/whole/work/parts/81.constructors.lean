def mt_X7_init : mt_ := (yX7_init, cX7_init, 2, none)
theorem kk_X7_init : mk_ mt_X7_init 0 := ⟨List.mem_of_getElem? (i := 76) (by decide +kernel), List.mem_of_getElem? (i := 61) (by decide +kernel), by decide +kernel, by decide⟩
theorem kj_X7_init : Cond.instanceMethod mt_X7_init.1 ∈ lw_tbl := List.mem_of_getElem? (i := 75) (by decide +kernel)
theorem dd_X7_init : dd_ cX7_init [(0, .aload_n 0, 1), (1, .invokespecial 1, 3), (4, .aload_n 0, 1), (5, .new 7, 3), (8, .dup, 1), (9, .bipush 6, 2), (11, .bipush 40, 2), (13, .invokespecial 11, 3), (16, .putfield 14, 3), (19, .aload_n 0, 1), (20, .new 7, 3), (23, .dup, 1), (24, .iconst 4, 1), (25, .bipush 80, 2), (27, .invokespecial 11, 3), (30, .putfield 18, 3), (33, .aload_n 0, 1), (34, .iconst 3, 1), (35, .anewarray 21, 3), (38, .putfield 23, 3), (41, .aload_n 0, 1), (42, .new 27, 3), (45, .dup, 1), (46, .invokespecial 29, 3), (49, .putfield 30, 3), (52, .aload_n 0, 1), (53, .new 34, 3), (56, .dup, 1), (57, .invokespecial 36, 3), (60, .putfield 37, 3), (63, .aload_n 0, 1), (64, .new 41, 3), (67, .dup, 1), (68, .invokespecial 43, 3), (71, .putfield 44, 3), (74, .aload_n 0, 1), (75, .iconst 4, 1), (76, .newarray .int, 2), (78, .putfield 48, 3), (81, .aload_n 0, 1), (82, .new 52, 3), (85, .dup, 1), (86, .invokespecial 54, 3), (89, .putfield 55, 3), (92, .aload_n 0, 1), (93, .new 52, 3), (96, .dup, 1), (97, .invokespecial 54, 3), (100, .putfield 59, 3), (103, .iconst 0, 1), (104, .istore_n 1, 1), (105, .iload_n 1, 1), (106, .iconst 3, 1), (107, .if_icmp .ge 22, 3), (110, .aload_n 0, 1), (111, .getfield 23, 3), (114, .iload_n 1, 1), (115, .new 21, 3), (118, .dup, 1), (119, .invokespecial 62, 3), (122, .aastore, 1), (123, .iinc 1 1, 3), (126, .goto (-21), 3), (129, .return_, 1)] := by decide +kernel
def mt_X5_init : mt_ := (yX5_init, cX5_init, 4, none)
theorem kk_X5_init : mk_ mt_X5_init 2 := ⟨List.mem_of_getElem? (i := 84) (by decide +kernel), List.mem_of_getElem? (i := 62) (by decide +kernel), by decide +kernel, by decide⟩
theorem kj_X5_init : Cond.instanceMethod mt_X5_init.1 ∈ lw_tbl := List.mem_of_getElem? (i := 83) (by decide +kernel)
theorem dd_X5_init : dd_ cX5_init [(0, .aload_n 0, 1), (1, .invokespecial 3, 3), (4, .aload_n 0, 1), (5, .iload_n 1, 1), (6, .iload_n 2, 1), (7, .multianewarray 9 2, 4), (11, .putfield 11, 3), (14, .aload_n 0, 1), (15, .iload_n 1, 1), (16, .newarray .int, 2), (18, .putfield 16, 3), (21, .iconst 0, 1), (22, .istore_n 3, 1), (23, .iload_n 3, 1), (24, .iload_n 1, 1), (25, .if_icmp .ge 16, 3), (28, .aload_n 0, 1), (29, .getfield 16, 3), (32, .iload_n 3, 1), (33, .iconst (-1), 1), (34, .iastore, 1), (35, .iinc 3 1, 3), (38, .goto (-15), 3), (41, .return_, 1)] := by decide +kernel
def mt_X4_init : mt_ := (yX4_init, cX4_init, 1, none)
theorem kk_X4_init : mk_ mt_X4_init 0 := ⟨List.mem_of_getElem? (i := 104) (by decide +kernel), List.mem_of_getElem? (i := 63) (by decide +kernel), by decide +kernel, by decide⟩
theorem kj_X4_init : Cond.instanceMethod mt_X4_init.1 ∈ lw_tbl := List.mem_of_getElem? (i := 103) (by decide +kernel)
theorem dd_X4_init : dd_ cX4_init [(0, .aload_n 0, 1), (1, .invokespecial 3, 3), (4, .return_, 1)] := by decide +kernel
def mt_X3_init : mt_ := (yX3_init, cX3_init, 1, none)
theorem kk_X3_init : mk_ mt_X3_init 0 := ⟨List.mem_of_getElem? (i := 120) (by decide +kernel), List.mem_of_getElem? (i := 64) (by decide +kernel), by decide +kernel, by decide⟩
theorem kj_X3_init : Cond.instanceMethod mt_X3_init.1 ∈ lw_tbl := List.mem_of_getElem? (i := 119) (by decide +kernel)
theorem dd_X3_init : dd_ cX3_init [(0, .aload_n 0, 1), (1, .invokespecial 3, 3), (4, .aload_n 0, 1), (5, .iconst 5, 1), (6, .newarray .int, 2), (8, .putfield 9, 3), (11, .aload_n 0, 1), (12, .bipush 6, 2), (14, .bipush 16, 2), (16, .multianewarray 15 2, 4), (20, .putfield 17, 3), (23, .aload_n 0, 1), (24, .bipush 6, 2), (26, .bipush 16, 2), (28, .multianewarray 15 2, 4), (32, .putfield 20, 3), (35, .return_, 1)] := by decide +kernel
def mt_X6_init : mt_ := (yX6_init, cX6_init, 1, none)
theorem kk_X6_init : mk_ mt_X6_init 0 := ⟨List.mem_of_getElem? (i := 139) (by decide +kernel), List.mem_of_getElem? (i := 65) (by decide +kernel), by decide +kernel, by decide⟩
theorem kj_X6_init : Cond.instanceMethod mt_X6_init.1 ∈ lw_tbl := List.mem_of_getElem? (i := 138) (by decide +kernel)
theorem dd_X6_init : dd_ cX6_init [(0, .aload_n 0, 1), (1, .invokespecial 3, 3), (4, .aload_n 0, 1), (5, .bipush 6, 2), (7, .newarray .int, 2), (9, .putfield 9, 3), (12, .aload_n 0, 1), (13, .lconst 1, 1), (14, .putfield 15, 3), (17, .return_, 1)] := by decide +kernel
def mt_X2_init : mt_ := (yX2_init, cX2_init, 1, none)
theorem kk_X2_init : mk_ mt_X2_init 0 := ⟨List.mem_of_getElem? (i := 166) (by decide +kernel), List.mem_of_getElem? (i := 66) (by decide +kernel), by decide +kernel, by decide⟩
theorem kj_X2_init : Cond.instanceMethod mt_X2_init.1 ∈ lw_tbl := List.mem_of_getElem? (i := 165) (by decide +kernel)
theorem dd_X2_init : dd_ cX2_init [(0, .aload_n 0, 1), (1, .invokespecial 3, 3), (4, .aload_n 0, 1), (5, .iconst 5, 1), (6, .iconst 5, 1), (7, .multianewarray 9 2, 4), (11, .putfield 11, 3), (14, .aload_n 0, 1), (15, .iconst 5, 1), (16, .iconst 5, 1), (17, .multianewarray 9 2, 4), (21, .putfield 16, 3), (24, .aload_n 0, 1), (25, .iconst 4, 1), (26, .iconst 3, 1), (27, .multianewarray 9 2, 4), (31, .putfield 19, 3), (34, .aload_n 0, 1), (35, .iconst 4, 1), (36, .iconst 5, 1), (37, .multianewarray 9 2, 4), (41, .putfield 22, 3), (44, .aload_n 0, 1), (45, .iconst 3, 1), (46, .newarray .int, 2), (48, .putfield 25, 3), (51, .aload_n 0, 1), (52, .bipush 40, 2), (54, .newarray .int, 2), (56, .putfield 29, 3), (59, .return_, 1)] := by decide +kernel
def mt_X0_init : mt_ := (yX0_init, cX0_init, 1, none)
theorem kk_X0_init : mk_ mt_X0_init 0 := ⟨List.mem_of_getElem? (i := 210) (by decide +kernel), List.mem_of_getElem? (i := 67) (by decide +kernel), by decide +kernel, by decide⟩
theorem kj_X0_init : Cond.instanceMethod mt_X0_init.1 ∈ lw_tbl := List.mem_of_getElem? (i := 209) (by decide +kernel)
theorem dd_X0_init : dd_ cX0_init [(0, .aload_n 0, 1), (1, .invokespecial 3, 3), (4, .aload_n 0, 1), (5, .bipush 40, 2), (7, .newarray .int, 2), (9, .putfield 9, 3), (12, .aload_n 0, 1), (13, .iconst 4, 1), (14, .newarray .int, 2), (16, .putfield 15, 3), (19, .aload_n 0, 1), (20, .iconst (-1), 1), (21, .putfield 18, 3), (24, .return_, 1)] := by decide +kernel
def mt_X8_init : mt_ := (yX8_init, cX8_init, 2, none)
theorem kk_X8_init : mk_ mt_X8_init 0 := ⟨List.mem_of_getElem? (i := 770) (by decide +kernel), List.mem_of_getElem? (i := 68) (by decide +kernel), by decide +kernel, by decide⟩
theorem kj_X8_init : Cond.instanceMethod mt_X8_init.1 ∈ lw_tbl := List.mem_of_getElem? (i := 769) (by decide +kernel)
theorem dd_X8_init : dd_ cX8_init [(0, .aload_n 0, 1), (1, .invokespecial 1, 3), (4, .aload_n 0, 1), (5, .bipush 6, 2), (7, .newarray .int, 2), (9, .putfield 7, 3), (12, .aload_n 0, 1), (13, .lconst 1, 1), (14, .putfield 13, 3), (17, .aload_n 0, 1), (18, .bipush 6, 2), (20, .newarray .int, 2), (22, .putfield 17, 3), (25, .aload_n 0, 1), (26, .sipush 240, 3), (29, .newarray .int, 2), (31, .putfield 20, 3), (34, .aload_n 0, 1), (35, .bipush 40, 2), (37, .newarray .int, 2), (39, .putfield 23, 3), (42, .aload_n 0, 1), (43, .iconst 4, 1), (44, .newarray .int, 2), (46, .putfield 26, 3), (49, .aload_n 0, 1), (50, .sipush 320, 3), (53, .newarray .int, 2), (55, .putfield 29, 3), (58, .aload_n 0, 1), (59, .bipush 25, 2), (61, .newarray .int, 2), (63, .putfield 32, 3), (66, .aload_n 0, 1), (67, .bipush 12, 2), (69, .newarray .int, 2), (71, .putfield 35, 3), (74, .aload_n 0, 1), (75, .bipush 20, 2), (77, .newarray .int, 2), (79, .putfield 38, 3), (82, .aload_n 0, 1), (83, .bipush 60, 2), (85, .newarray .int, 2), (87, .putfield 41, 3), (90, .aload_n 0, 1), (91, .sipush 1000, 3), (94, .newarray .int, 2), (96, .putfield 44, 3), (99, .aload_n 0, 1), (100, .sipush 3090, 3), (103, .newarray .int, 2), (105, .putfield 47, 3), (108, .aload_n 0, 1), (109, .iconst 5, 1), (110, .newarray .int, 2), (112, .putfield 50, 3), (115, .aload_n 0, 1), (116, .iconst 5, 1), (117, .newarray .int, 2), (119, .putfield 53, 3), (122, .aload_n 0, 1), (123, .iconst 5, 1), (124, .newarray .int, 2), (126, .putfield 56, 3), (129, .aload_n 0, 1), (130, .iconst 4, 1), (131, .newarray .int, 2), (133, .putfield 59, 3), (136, .iconst 0, 1), (137, .istore_n 1, 1), (138, .iload_n 1, 1), (139, .bipush 6, 2), (141, .if_icmp .ge 17, 3), (144, .aload_n 0, 1), (145, .getfield 17, 3), (148, .iload_n 1, 1), (149, .bipush (-9), 2), (151, .iastore, 1), (152, .iinc 1 1, 3), (155, .goto (-17), 3), (158, .iconst 0, 1), (159, .istore_n 1, 1), (160, .iload_n 1, 1), (161, .iconst 4, 1), (162, .if_icmp .ge 17, 3), (165, .aload_n 0, 1), (166, .getfield 26, 3), (169, .iload_n 1, 1), (170, .bipush (-9), 2), (172, .iastore, 1), (173, .iinc 1 1, 3), (176, .goto (-16), 3), (179, .iconst 0, 1), (180, .istore_n 1, 1), (181, .iload_n 1, 1), (182, .iconst 3, 1), (183, .if_icmp .ge 21, 3), (186, .aload_n 0, 1), (187, .getfield 47, 3), (190, .sipush 1030, 3), (193, .iload_n 1, 1), (194, .imul, 1), (195, .bipush (-9), 2), (197, .iastore, 1), (198, .iinc 1 1, 3), (201, .goto (-20), 3), (204, .return_, 1)] := by decide +kernel
theorem dy_0 : ∀ j, j < 3 → defaultValue (tyX0 j) = dv_ 0 j := by decide +kernel
theorem ii_0 : Cond.instantiable RX0 3 ∈ lw_tbl ∧ Cond.initialized RX0 ∈ lw_tbl := ⟨List.mem_of_getElem? (i := 207) (by decide +kernel), List.mem_of_getElem? (i := 67) (by decide +kernel)⟩
theorem dy_1 : ∀ j, j < 7 → defaultValue (tyX2 j) = dv_ 1 j := by decide +kernel
theorem ii_1 : Cond.instantiable RX2 7 ∈ lw_tbl ∧ Cond.initialized RX2 ∈ lw_tbl := ⟨List.mem_of_getElem? (i := 163) (by decide +kernel), List.mem_of_getElem? (i := 66) (by decide +kernel)⟩
theorem dy_2 : ∀ j, j < 3 → defaultValue (tyX3 j) = dv_ 2 j := by decide +kernel
theorem ii_2 : Cond.instantiable RX3 3 ∈ lw_tbl ∧ Cond.initialized RX3 ∈ lw_tbl := ⟨List.mem_of_getElem? (i := 117) (by decide +kernel), List.mem_of_getElem? (i := 64) (by decide +kernel)⟩
theorem dy_3 : ∀ j, j < 3 → defaultValue (tyX4 j) = dv_ 3 j := by decide +kernel
theorem ii_3 : Cond.instantiable RX4 3 ∈ lw_tbl ∧ Cond.initialized RX4 ∈ lw_tbl := ⟨List.mem_of_getElem? (i := 101) (by decide +kernel), List.mem_of_getElem? (i := 63) (by decide +kernel)⟩
theorem dy_4 : ∀ j, j < 2 → defaultValue (tyX5 j) = dv_ 4 j := by decide +kernel
theorem ii_4 : Cond.instantiable RX5 2 ∈ lw_tbl ∧ Cond.initialized RX5 ∈ lw_tbl := ⟨List.mem_of_getElem? (i := 81) (by decide +kernel), List.mem_of_getElem? (i := 62) (by decide +kernel)⟩
theorem dy_5 : ∀ j, j < 5 → defaultValue (tyX6 j) = dv_ 5 j := by decide +kernel
theorem ii_5 : Cond.instantiable RX6 5 ∈ lw_tbl ∧ Cond.initialized RX6 ∈ lw_tbl := ⟨List.mem_of_getElem? (i := 136) (by decide +kernel), List.mem_of_getElem? (i := 65) (by decide +kernel)⟩
theorem dy_6 : ∀ j, j < 9 → defaultValue (tyX7 j) = dv_ 6 j := by decide +kernel
theorem ii_6 : Cond.instantiable RX7 9 ∈ lw_tbl ∧ Cond.initialized RX7 ∈ lw_tbl := ⟨List.mem_of_getElem? (i := 73) (by decide +kernel), List.mem_of_getElem? (i := 61) (by decide +kernel)⟩
theorem dy_7 : ∀ j, j < 31 → defaultValue (tyX8 j) = dv_ 7 j := by decide +kernel
theorem ii_7 : Cond.instantiable RX8 31 ∈ lw_tbl ∧ Cond.initialized RX8 ∈ lw_tbl := ⟨List.mem_of_getElem? (i := 767) (by decide +kernel), List.mem_of_getElem? (i := 68) (by decide +kernel)⟩
theorem ac_int : Cond.arrayClass .int ∈ lw_tbl := List.mem_of_getElem? (i := 97) (by decide +kernel)
theorem bq_16 : (Int8.ofInt (16)).toInt32 = 16 := by decide
theorem sq_240 : (Int16.ofInt (240)).toInt32 = 240 := by decide
theorem sq_320 : (Int16.ofInt (320)).toInt32 = 320 := by decide
theorem sq_3090 : (Int16.ofInt (3090)).toInt32 = 3090 := by decide
theorem cl_RX2_9 : Cond.classLink RX2 9 "[[I" ∈ lw_tbl := List.mem_of_getElem? (i := 168) (by decide +kernel)
theorem cl_RX3_15 : Cond.classLink RX3 15 "[[I" ∈ lw_tbl := List.mem_of_getElem? (i := 122) (by decide +kernel)
theorem cl_RX5_9 : Cond.classLink RX5 9 "[[I" ∈ lw_tbl := List.mem_of_getElem? (i := 86) (by decide +kernel)
theorem cl_RX7_21 : Cond.classLink RX7 21 RX0 ∈ lw_tbl := List.mem_of_getElem? (i := 98) (by decide +kernel)
theorem cl_RX7_27 : Cond.classLink RX7 27 RX4 ∈ lw_tbl := List.mem_of_getElem? (i := 100) (by decide +kernel)
theorem cl_RX7_34 : Cond.classLink RX7 34 RX3 ∈ lw_tbl := List.mem_of_getElem? (i := 116) (by decide +kernel)
theorem cl_RX7_41 : Cond.classLink RX7 41 RX6 ∈ lw_tbl := List.mem_of_getElem? (i := 135) (by decide +kernel)
theorem cl_RX7_52 : Cond.classLink RX7 52 RX2 ∈ lw_tbl := List.mem_of_getElem? (i := 162) (by decide +kernel)
theorem cl_RX7_7 : Cond.classLink RX7 7 RX5 ∈ lw_tbl := List.mem_of_getElem? (i := 80) (by decide +kernel)
theorem lg_RX5_16 : fl_ RX5 16 (TX5 1) := Or.inl (List.mem_of_getElem? (i := 90) (by decide +kernel))
theorem lg_RX7_23 : fl_ RX7 23 (TX7 2) := Or.inl (List.mem_of_getElem? (i := 225) (by decide +kernel))
theorem lg_RX8_17 : fl_ RX8 17 (TX8 5) := Or.inl (List.mem_of_getElem? (i := 777) (by decide +kernel))
theorem lg_RX8_26 : fl_ RX8 26 (TX8 8) := Or.inl (List.mem_of_getElem? (i := 780) (by decide +kernel))
theorem lg_RX8_47 : fl_ RX8 47 (TX8 23) := Or.inl (List.mem_of_getElem? (i := 795) (by decide +kernel))
theorem li_RX7_11 : Cond.methodLink RX7 11 mt_X5_init.1 ∈ lw_tbl ∨ Cond.methodLinkNest RX7 11 mt_X5_init.1 "ThumbReader" ∈ lw_tbl := Or.inl (List.mem_of_getElem? (i := 82) (by decide +kernel))
theorem li_RX7_29 : Cond.methodLink RX7 29 mt_X4_init.1 ∈ lw_tbl ∨ Cond.methodLinkNest RX7 29 mt_X4_init.1 "ThumbReader" ∈ lw_tbl := Or.inr (List.mem_of_getElem? (i := 102) (by decide +kernel))
theorem li_RX7_36 : Cond.methodLink RX7 36 mt_X3_init.1 ∈ lw_tbl ∨ Cond.methodLinkNest RX7 36 mt_X3_init.1 "ThumbReader" ∈ lw_tbl := Or.inr (List.mem_of_getElem? (i := 118) (by decide +kernel))
theorem li_RX7_43 : Cond.methodLink RX7 43 mt_X6_init.1 ∈ lw_tbl ∨ Cond.methodLinkNest RX7 43 mt_X6_init.1 "ThumbReader" ∈ lw_tbl := Or.inr (List.mem_of_getElem? (i := 137) (by decide +kernel))
theorem li_RX7_54 : Cond.methodLink RX7 54 mt_X2_init.1 ∈ lw_tbl ∨ Cond.methodLinkNest RX7 54 mt_X2_init.1 "ThumbReader" ∈ lw_tbl := Or.inr (List.mem_of_getElem? (i := 164) (by decide +kernel))
theorem li_RX7_62 : Cond.methodLink RX7 62 mt_X0_init.1 ∈ lw_tbl ∨ Cond.methodLinkNest RX7 62 mt_X0_init.1 "ThumbReader" ∈ lw_tbl := Or.inr (List.mem_of_getElem? (i := 208) (by decide +kernel))
theorem lo_RX0_3 : Cond.methodLink RX0 3 objectInit ∈ lw_tbl := List.mem_of_getElem? (i := 211) (by decide +kernel)
theorem lo_RX2_3 : Cond.methodLink RX2 3 objectInit ∈ lw_tbl := List.mem_of_getElem? (i := 167) (by decide +kernel)
theorem lo_RX3_3 : Cond.methodLink RX3 3 objectInit ∈ lw_tbl := List.mem_of_getElem? (i := 121) (by decide +kernel)
theorem lo_RX4_3 : Cond.methodLink RX4 3 objectInit ∈ lw_tbl := List.mem_of_getElem? (i := 105) (by decide +kernel)
theorem lo_RX5_3 : Cond.methodLink RX5 3 objectInit ∈ lw_tbl := List.mem_of_getElem? (i := 85) (by decide +kernel)
theorem lo_RX6_3 : Cond.methodLink RX6 3 objectInit ∈ lw_tbl := List.mem_of_getElem? (i := 140) (by decide +kernel)
theorem lo_RX7_1 : Cond.methodLink RX7 1 objectInit ∈ lw_tbl := List.mem_of_getElem? (i := 77) (by decide +kernel)
theorem lo_RX8_1 : Cond.methodLink RX8 1 objectInit ∈ lw_tbl := List.mem_of_getElem? (i := 771) (by decide +kernel)
theorem lp_RX0_15 : Cond.fieldLink RX0 15 (TX0 1).1 (TX0 1).2.1 (TX0 1).2.2.1 ∈ lw_tbl := List.mem_of_getElem? (i := 213) (by decide +kernel)
theorem lp_RX0_18 : Cond.fieldLink RX0 18 (TX0 2).1 (TX0 2).2.1 (TX0 2).2.2.1 ∈ lw_tbl := List.mem_of_getElem? (i := 214) (by decide +kernel)
theorem lp_RX0_9 : Cond.fieldLink RX0 9 (TX0 0).1 (TX0 0).2.1 (TX0 0).2.2.1 ∈ lw_tbl := List.mem_of_getElem? (i := 212) (by decide +kernel)
theorem lp_RX2_11 : Cond.fieldLink RX2 11 (TX2 0).1 (TX2 0).2.1 (TX2 0).2.2.1 ∈ lw_tbl := List.mem_of_getElem? (i := 169) (by decide +kernel)
theorem lp_RX2_16 : Cond.fieldLink RX2 16 (TX2 1).1 (TX2 1).2.1 (TX2 1).2.2.1 ∈ lw_tbl := List.mem_of_getElem? (i := 171) (by decide +kernel)
theorem lp_RX2_19 : Cond.fieldLink RX2 19 (TX2 2).1 (TX2 2).2.1 (TX2 2).2.2.1 ∈ lw_tbl := List.mem_of_getElem? (i := 173) (by decide +kernel)
theorem lp_RX2_22 : Cond.fieldLink RX2 22 (TX2 3).1 (TX2 3).2.1 (TX2 3).2.2.1 ∈ lw_tbl := List.mem_of_getElem? (i := 178) (by decide +kernel)
theorem lp_RX2_25 : Cond.fieldLink RX2 25 (TX2 4).1 (TX2 4).2.1 (TX2 4).2.2.1 ∈ lw_tbl := List.mem_of_getElem? (i := 182) (by decide +kernel)
theorem lp_RX2_29 : Cond.fieldLink RX2 29 (TX2 5).1 (TX2 5).2.1 (TX2 5).2.2.1 ∈ lw_tbl := List.mem_of_getElem? (i := 187) (by decide +kernel)
theorem lp_RX3_17 : Cond.fieldLink RX3 17 (TX3 1).1 (TX3 1).2.1 (TX3 1).2.2.1 ∈ lw_tbl := List.mem_of_getElem? (i := 125) (by decide +kernel)
theorem lp_RX3_20 : Cond.fieldLink RX3 20 (TX3 2).1 (TX3 2).2.1 (TX3 2).2.2.1 ∈ lw_tbl := List.mem_of_getElem? (i := 126) (by decide +kernel)
theorem lp_RX3_9 : Cond.fieldLink RX3 9 (TX3 0).1 (TX3 0).2.1 (TX3 0).2.2.1 ∈ lw_tbl := List.mem_of_getElem? (i := 123) (by decide +kernel)
theorem lp_RX5_11 : Cond.fieldLink RX5 11 (TX5 0).1 (TX5 0).2.1 (TX5 0).2.2.1 ∈ lw_tbl := List.mem_of_getElem? (i := 88) (by decide +kernel)
theorem lp_RX5_16 : Cond.fieldLink RX5 16 (TX5 1).1 (TX5 1).2.1 (TX5 1).2.2.1 ∈ lw_tbl := List.mem_of_getElem? (i := 90) (by decide +kernel)
theorem lp_RX6_15 : Cond.fieldLink RX6 15 (TX6 4).1 (TX6 4).2.1 (TX6 4).2.2.1 ∈ lw_tbl := List.mem_of_getElem? (i := 149) (by decide +kernel)
theorem lp_RX6_9 : Cond.fieldLink RX6 9 (TX6 0).1 (TX6 0).2.1 (TX6 0).2.2.1 ∈ lw_tbl := List.mem_of_getElem? (i := 141) (by decide +kernel)
theorem lp_RX7_14 : Cond.fieldLink RX7 14 (TX7 0).1 (TX7 0).2.1 (TX7 0).2.2.1 ∈ lw_tbl := List.mem_of_getElem? (i := 223) (by decide +kernel)
theorem lp_RX7_18 : Cond.fieldLink RX7 18 (TX7 1).1 (TX7 1).2.1 (TX7 1).2.2.1 ∈ lw_tbl := List.mem_of_getElem? (i := 224) (by decide +kernel)
theorem lp_RX7_23 : Cond.fieldLink RX7 23 (TX7 2).1 (TX7 2).2.1 (TX7 2).2.2.1 ∈ lw_tbl := List.mem_of_getElem? (i := 225) (by decide +kernel)
theorem lp_RX7_30 : Cond.fieldLink RX7 30 (TX7 3).1 (TX7 3).2.1 (TX7 3).2.2.1 ∈ lw_tbl := List.mem_of_getElem? (i := 226) (by decide +kernel)
theorem lp_RX7_37 : Cond.fieldLink RX7 37 (TX7 4).1 (TX7 4).2.1 (TX7 4).2.2.1 ∈ lw_tbl := List.mem_of_getElem? (i := 227) (by decide +kernel)
theorem lp_RX7_44 : Cond.fieldLink RX7 44 (TX7 5).1 (TX7 5).2.1 (TX7 5).2.2.1 ∈ lw_tbl := List.mem_of_getElem? (i := 228) (by decide +kernel)
theorem lp_RX7_48 : Cond.fieldLink RX7 48 (TX7 6).1 (TX7 6).2.1 (TX7 6).2.2.1 ∈ lw_tbl := List.mem_of_getElem? (i := 229) (by decide +kernel)
theorem lp_RX7_55 : Cond.fieldLink RX7 55 (TX7 7).1 (TX7 7).2.1 (TX7 7).2.2.1 ∈ lw_tbl := List.mem_of_getElem? (i := 230) (by decide +kernel)
theorem lp_RX7_59 : Cond.fieldLink RX7 59 (TX7 8).1 (TX7 8).2.1 (TX7 8).2.2.1 ∈ lw_tbl := List.mem_of_getElem? (i := 231) (by decide +kernel)
theorem lp_RX8_13 : Cond.fieldLink RX8 13 (TX8 4).1 (TX8 4).2.1 (TX8 4).2.2.1 ∈ lw_tbl := List.mem_of_getElem? (i := 776) (by decide +kernel)
theorem lp_RX8_17 : Cond.fieldLink RX8 17 (TX8 5).1 (TX8 5).2.1 (TX8 5).2.2.1 ∈ lw_tbl := List.mem_of_getElem? (i := 777) (by decide +kernel)
theorem lp_RX8_20 : Cond.fieldLink RX8 20 (TX8 6).1 (TX8 6).2.1 (TX8 6).2.2.1 ∈ lw_tbl := List.mem_of_getElem? (i := 778) (by decide +kernel)
theorem lp_RX8_23 : Cond.fieldLink RX8 23 (TX8 7).1 (TX8 7).2.1 (TX8 7).2.2.1 ∈ lw_tbl := List.mem_of_getElem? (i := 779) (by decide +kernel)
theorem lp_RX8_26 : Cond.fieldLink RX8 26 (TX8 8).1 (TX8 8).2.1 (TX8 8).2.2.1 ∈ lw_tbl := List.mem_of_getElem? (i := 780) (by decide +kernel)
theorem lp_RX8_29 : Cond.fieldLink RX8 29 (TX8 9).1 (TX8 9).2.1 (TX8 9).2.2.1 ∈ lw_tbl := List.mem_of_getElem? (i := 781) (by decide +kernel)
theorem lp_RX8_32 : Cond.fieldLink RX8 32 (TX8 13).1 (TX8 13).2.1 (TX8 13).2.2.1 ∈ lw_tbl := List.mem_of_getElem? (i := 785) (by decide +kernel)
theorem lp_RX8_35 : Cond.fieldLink RX8 35 (TX8 14).1 (TX8 14).2.1 (TX8 14).2.2.1 ∈ lw_tbl := List.mem_of_getElem? (i := 786) (by decide +kernel)
theorem lp_RX8_38 : Cond.fieldLink RX8 38 (TX8 15).1 (TX8 15).2.1 (TX8 15).2.2.1 ∈ lw_tbl := List.mem_of_getElem? (i := 787) (by decide +kernel)
theorem lp_RX8_41 : Cond.fieldLink RX8 41 (TX8 20).1 (TX8 20).2.1 (TX8 20).2.2.1 ∈ lw_tbl := List.mem_of_getElem? (i := 792) (by decide +kernel)
theorem lp_RX8_44 : Cond.fieldLink RX8 44 (TX8 22).1 (TX8 22).2.1 (TX8 22).2.2.1 ∈ lw_tbl := List.mem_of_getElem? (i := 794) (by decide +kernel)
theorem lp_RX8_47 : Cond.fieldLink RX8 47 (TX8 23).1 (TX8 23).2.1 (TX8 23).2.2.1 ∈ lw_tbl := List.mem_of_getElem? (i := 795) (by decide +kernel)
theorem lp_RX8_50 : Cond.fieldLink RX8 50 (TX8 24).1 (TX8 24).2.1 (TX8 24).2.2.1 ∈ lw_tbl := List.mem_of_getElem? (i := 796) (by decide +kernel)
theorem lp_RX8_53 : Cond.fieldLink RX8 53 (TX8 25).1 (TX8 25).2.1 (TX8 25).2.2.1 ∈ lw_tbl := List.mem_of_getElem? (i := 797) (by decide +kernel)
theorem lp_RX8_56 : Cond.fieldLink RX8 56 (TX8 26).1 (TX8 26).2.1 (TX8 26).2.2.1 ∈ lw_tbl := List.mem_of_getElem? (i := 798) (by decide +kernel)
theorem lp_RX8_59 : Cond.fieldLink RX8 59 (TX8 29).1 (TX8 29).2.1 (TX8 29).2.2.1 ∈ lw_tbl := List.mem_of_getElem? (i := 801) (by decide +kernel)
theorem lp_RX8_7 : Cond.fieldLink RX8 7 (TX8 1).1 (TX8 1).2.1 (TX8 1).2.2.1 ∈ lw_tbl := List.mem_of_getElem? (i := 773) (by decide +kernel)
theorem sc_X5_init_2 {l : Launch} {G : gt_} {ρ : Nat → Nat → Nat} {h : hh_} : okc_ l G 1 8 252 mt_X5_init [.ref 2, .int 6, .int 40] (2, ρ, h) (10, (hh_up (hh_up (rm2_ ρ 3 6) 2 0 3) 2 1 10), (hh_sI (hh_sI (hh_sI (hh_sI (hh_sI (hh_sI h 10 0 (-1)) 10 1 (-1)) 10 2 (-1)) 10 3 (-1)) 10 4 (-1)) 10 5 (-1))) := by
  refine okc_of pn_RX5 rfl (lb_ rfl) (fun Z _ _ C kc hin hmc hms Q => ?_)
  show xc_ Z 0 0 0 [some (.ref 2), some (.int 6), some (.int 40), none] [] (2, ρ, h)
  refine xc_aload_n C (dd_X5_init.at 0 rfl) rfl (lb_ rfl) ?_
  refine xc_objInit C (dd_X5_init.at 1 rfl) lo_RX5_3 ⟨lb_ rfl, lb_ rfl⟩ (lb_ rfl) (lb_ rfl) ?_
  refine xc_aload_n C (dd_X5_init.at 2 rfl) rfl (lb_ rfl) ?_
  refine xc_iload_n C (dd_X5_init.at 3 rfl) rfl ?_
  refine xc_iload_n C (dd_X5_init.at 4 rfl) rfl ?_
  refine xc_mna (N := 6) (L := 40) C kc (by decide) (by decide) (by decide) (by decide) (by decide) (by decide) (by decide) cl_RX5_9 ac_int sh_k3 (by show ∀ j, j < 6 → sh_ (4 + j) = (1, 40); decide) (by rw [hmc]; exact lb_ rfl) (by rw [hms]; exact lb_ rfl) (dd_X5_init.at 5 rfl) ?_
  show xc_ Z 7 246 11 [some (.ref 2), some (.int 6), some (.int 40), none] [.ref 3, .ref 2] (9, (rm2_ ρ 3 6), h)
  refine xc_putR (j := 0) C hin ck_4 (lb_ rfl) lp_RX5_11 rfl (Or.inr ⟨_, rfl⟩) sh_k2 (lb_ rfl) rfl ⟨lb_ rfl, lb_ rfl⟩ (dd_X5_init.at 6 rfl) ?_
  show xc_ Z 7 246 14 [some (.ref 2), some (.int 6), some (.int 40), none] [] (9, (hh_up (rm2_ ρ 3 6) 2 0 3), h)
  refine xc_aload_n C (dd_X5_init.at 7 rfl) rfl (lb_ rfl) ?_
  refine xc_iload_n C (dd_X5_init.at 8 rfl) rfl ?_
  refine xc_newa (N := 6) C kc (by decide) (by decide) (by decide) ac_int sh_k10 (by rw [hmc]; exact lb_ rfl) (by rw [hms]; exact lb_ rfl) (dd_X5_init.at 9 rfl) ?_
  show xc_ Z 8 252 18 [some (.ref 2), some (.int 6), some (.int 40), none] [.ref 10, .ref 2] (10, (hh_up (rm2_ ρ 3 6) 2 0 3), h)
  refine xc_putR (j := 1) C hin ck_4 (lb_ rfl) lp_RX5_16 rfl (Or.inr ⟨_, rfl⟩) sh_k2 (lb_ rfl) rfl ⟨lb_ rfl, lb_ rfl⟩ (dd_X5_init.at 10 rfl) ?_
  show xc_ Z 8 252 21 [some (.ref 2), some (.int 6), some (.int 40), none] [] (10, (hh_up (hh_up (rm2_ ρ 3 6) 2 0 3) 2 1 10), h)
  refine xc_iconst C (dd_X5_init.at 11 rfl) ic_0 ?_
  refine xc_istore_n (lv' := [_, _, _, _]) C (dd_X5_init.at 12 rfl) (lb_ rfl) rfl ?_
  refine xc_iload_n C (dd_X5_init.at 13 rfl) rfl ?_
  refine xc_iload_n C (dd_X5_init.at 14 rfl) rfl ?_
  refine xc_icmp_ge_f (tgt := 41) C (dd_X5_init.at 15 rfl) (by decide) (by decide) ?_
  refine xc_aload_n C (dd_X5_init.at 16 rfl) rfl (lb_ rfl) ?_
  refine xc_getR (j := 1) (r := 10) C ck_4 (lb_ rfl) lg_RX5_16 sh_k2 (lb_ rfl) rfl (lb_ rfl) rfl (by rw [hmc]; exact lb_ rfl) (by rw [hms]; exact lb_ rfl) (dd_X5_init.at 17 rfl) ?_
  refine xc_iload_n C (dd_X5_init.at 18 rfl) rfl ?_
  refine xc_iconst C (dd_X5_init.at 19 rfl) ic_m1 ?_
  refine xc_iastore (i0 := 0) C (dd_X5_init.at 20 rfl) sh_k10 (lb_ rfl) (bi_ok (i := 0) (n := 6) rfl) (by decide) ?_
  show xc_ Z 8 252 35 [some (.ref 2), some (.int 6), some (.int 40), some (.int 0)] [] (10, (hh_up (hh_up (rm2_ ρ 3 6) 2 0 3) 2 1 10), (hh_sI h 10 0 (-1)))
  refine xc_iinc (v := 1) (lv' := [_, _, _, _]) C (dd_X5_init.at 21 rfl) (lb_ rfl) rfl (by rw [ic_1]; decide) rfl ?_
  refine xc_goto (tgt := 23) C (dd_X5_init.at 22 rfl) (by decide) ?_
  refine xc_iload_n C (dd_X5_init.at 13 rfl) rfl ?_
  refine xc_iload_n C (dd_X5_init.at 14 rfl) rfl ?_
  refine xc_icmp_ge_f (tgt := 41) C (dd_X5_init.at 15 rfl) (by decide) (by decide) ?_
  refine xc_aload_n C (dd_X5_init.at 16 rfl) rfl (lb_ rfl) ?_
  refine xc_getR (j := 1) (r := 10) C ck_4 (lb_ rfl) lg_RX5_16 sh_k2 (lb_ rfl) rfl (lb_ rfl) rfl (by rw [hmc]; exact lb_ rfl) (by rw [hms]; exact lb_ rfl) (dd_X5_init.at 17 rfl) ?_
  refine xc_iload_n C (dd_X5_init.at 18 rfl) rfl ?_
  refine xc_iconst C (dd_X5_init.at 19 rfl) ic_m1 ?_
  refine xc_iastore (i0 := 1) C (dd_X5_init.at 20 rfl) sh_k10 (lb_ rfl) (bi_ok (i := 1) (n := 6) rfl) (by decide) ?_
  show xc_ Z 8 252 35 [some (.ref 2), some (.int 6), some (.int 40), some (.int 1)] [] (10, (hh_up (hh_up (rm2_ ρ 3 6) 2 0 3) 2 1 10), (hh_sI (hh_sI h 10 0 (-1)) 10 1 (-1)))
  refine xc_iinc (v := 2) (lv' := [_, _, _, _]) C (dd_X5_init.at 21 rfl) (lb_ rfl) rfl (by rw [ic_1]; decide) rfl ?_
  refine xc_goto (tgt := 23) C (dd_X5_init.at 22 rfl) (by decide) ?_
  refine xc_iload_n C (dd_X5_init.at 13 rfl) rfl ?_
  refine xc_iload_n C (dd_X5_init.at 14 rfl) rfl ?_
  refine xc_icmp_ge_f (tgt := 41) C (dd_X5_init.at 15 rfl) (by decide) (by decide) ?_
  refine xc_aload_n C (dd_X5_init.at 16 rfl) rfl (lb_ rfl) ?_
  refine xc_getR (j := 1) (r := 10) C ck_4 (lb_ rfl) lg_RX5_16 sh_k2 (lb_ rfl) rfl (lb_ rfl) rfl (by rw [hmc]; exact lb_ rfl) (by rw [hms]; exact lb_ rfl) (dd_X5_init.at 17 rfl) ?_
  refine xc_iload_n C (dd_X5_init.at 18 rfl) rfl ?_
  refine xc_iconst C (dd_X5_init.at 19 rfl) ic_m1 ?_
  refine xc_iastore (i0 := 2) C (dd_X5_init.at 20 rfl) sh_k10 (lb_ rfl) (bi_ok (i := 2) (n := 6) rfl) (by decide) ?_
  show xc_ Z 8 252 35 [some (.ref 2), some (.int 6), some (.int 40), some (.int 2)] [] (10, (hh_up (hh_up (rm2_ ρ 3 6) 2 0 3) 2 1 10), (hh_sI (hh_sI (hh_sI h 10 0 (-1)) 10 1 (-1)) 10 2 (-1)))
  refine xc_iinc (v := 3) (lv' := [_, _, _, _]) C (dd_X5_init.at 21 rfl) (lb_ rfl) rfl (by rw [ic_1]; decide) rfl ?_
  refine xc_goto (tgt := 23) C (dd_X5_init.at 22 rfl) (by decide) ?_
  refine xc_iload_n C (dd_X5_init.at 13 rfl) rfl ?_
  refine xc_iload_n C (dd_X5_init.at 14 rfl) rfl ?_
  refine xc_icmp_ge_f (tgt := 41) C (dd_X5_init.at 15 rfl) (by decide) (by decide) ?_
  refine xc_aload_n C (dd_X5_init.at 16 rfl) rfl (lb_ rfl) ?_
  refine xc_getR (j := 1) (r := 10) C ck_4 (lb_ rfl) lg_RX5_16 sh_k2 (lb_ rfl) rfl (lb_ rfl) rfl (by rw [hmc]; exact lb_ rfl) (by rw [hms]; exact lb_ rfl) (dd_X5_init.at 17 rfl) ?_
  refine xc_iload_n C (dd_X5_init.at 18 rfl) rfl ?_
  refine xc_iconst C (dd_X5_init.at 19 rfl) ic_m1 ?_
  refine xc_iastore (i0 := 3) C (dd_X5_init.at 20 rfl) sh_k10 (lb_ rfl) (bi_ok (i := 3) (n := 6) rfl) (by decide) ?_
  show xc_ Z 8 252 35 [some (.ref 2), some (.int 6), some (.int 40), some (.int 3)] [] (10, (hh_up (hh_up (rm2_ ρ 3 6) 2 0 3) 2 1 10), (hh_sI (hh_sI (hh_sI (hh_sI h 10 0 (-1)) 10 1 (-1)) 10 2 (-1)) 10 3 (-1)))
  refine xc_iinc (v := 4) (lv' := [_, _, _, _]) C (dd_X5_init.at 21 rfl) (lb_ rfl) rfl (by rw [ic_1]; decide) rfl ?_
  refine xc_goto (tgt := 23) C (dd_X5_init.at 22 rfl) (by decide) ?_
  refine xc_iload_n C (dd_X5_init.at 13 rfl) rfl ?_
  refine xc_iload_n C (dd_X5_init.at 14 rfl) rfl ?_
  refine xc_icmp_ge_f (tgt := 41) C (dd_X5_init.at 15 rfl) (by decide) (by decide) ?_
  refine xc_aload_n C (dd_X5_init.at 16 rfl) rfl (lb_ rfl) ?_
  refine xc_getR (j := 1) (r := 10) C ck_4 (lb_ rfl) lg_RX5_16 sh_k2 (lb_ rfl) rfl (lb_ rfl) rfl (by rw [hmc]; exact lb_ rfl) (by rw [hms]; exact lb_ rfl) (dd_X5_init.at 17 rfl) ?_
  refine xc_iload_n C (dd_X5_init.at 18 rfl) rfl ?_
  refine xc_iconst C (dd_X5_init.at 19 rfl) ic_m1 ?_
  refine xc_iastore (i0 := 4) C (dd_X5_init.at 20 rfl) sh_k10 (lb_ rfl) (bi_ok (i := 4) (n := 6) rfl) (by decide) ?_
  show xc_ Z 8 252 35 [some (.ref 2), some (.int 6), some (.int 40), some (.int 4)] [] (10, (hh_up (hh_up (rm2_ ρ 3 6) 2 0 3) 2 1 10), (hh_sI (hh_sI (hh_sI (hh_sI (hh_sI h 10 0 (-1)) 10 1 (-1)) 10 2 (-1)) 10 3 (-1)) 10 4 (-1)))
  refine xc_iinc (v := 5) (lv' := [_, _, _, _]) C (dd_X5_init.at 21 rfl) (lb_ rfl) rfl (by rw [ic_1]; decide) rfl ?_
  refine xc_goto (tgt := 23) C (dd_X5_init.at 22 rfl) (by decide) ?_
  refine xc_iload_n C (dd_X5_init.at 13 rfl) rfl ?_
  refine xc_iload_n C (dd_X5_init.at 14 rfl) rfl ?_
  refine xc_icmp_ge_f (tgt := 41) C (dd_X5_init.at 15 rfl) (by decide) (by decide) ?_
  refine xc_aload_n C (dd_X5_init.at 16 rfl) rfl (lb_ rfl) ?_
  refine xc_getR (j := 1) (r := 10) C ck_4 (lb_ rfl) lg_RX5_16 sh_k2 (lb_ rfl) rfl (lb_ rfl) rfl (by rw [hmc]; exact lb_ rfl) (by rw [hms]; exact lb_ rfl) (dd_X5_init.at 17 rfl) ?_
  refine xc_iload_n C (dd_X5_init.at 18 rfl) rfl ?_
  refine xc_iconst C (dd_X5_init.at 19 rfl) ic_m1 ?_
  refine xc_iastore (i0 := 5) C (dd_X5_init.at 20 rfl) sh_k10 (lb_ rfl) (bi_ok (i := 5) (n := 6) rfl) (by decide) ?_
  show xc_ Z 8 252 35 [some (.ref 2), some (.int 6), some (.int 40), some (.int 5)] [] (10, (hh_up (hh_up (rm2_ ρ 3 6) 2 0 3) 2 1 10), (hh_sI (hh_sI (hh_sI (hh_sI (hh_sI (hh_sI h 10 0 (-1)) 10 1 (-1)) 10 2 (-1)) 10 3 (-1)) 10 4 (-1)) 10 5 (-1)))
  refine xc_iinc (v := 6) (lv' := [_, _, _, _]) C (dd_X5_init.at 21 rfl) (lb_ rfl) rfl (by rw [ic_1]; decide) rfl ?_
  refine xc_goto (tgt := 23) C (dd_X5_init.at 22 rfl) (by decide) ?_
  refine xc_iload_n C (dd_X5_init.at 13 rfl) rfl ?_
  refine xc_iload_n C (dd_X5_init.at 14 rfl) rfl ?_
  refine xc_icmp_ge_t (tgt := 41) C (dd_X5_init.at 15 rfl) (by decide) (by decide) ?_
  exact xc_return C kc Q (lb_ rfl) (lb_ rfl) (dd_X5_init.at 23 rfl) rfl
theorem sc_X5_init_11 {l : Launch} {G : gt_} {ρ : Nat → Nat → Nat} {h : hh_} : okc_ l G 1 6 328 mt_X5_init [.ref 11, .int 4, .int 80] (11, ρ, h) (17, (hh_up (hh_up (rm2_ ρ 12 4) 11 0 12) 11 1 17), (hh_sI (hh_sI (hh_sI (hh_sI h 17 0 (-1)) 17 1 (-1)) 17 2 (-1)) 17 3 (-1))) := by
  refine okc_of pn_RX5 rfl (lb_ rfl) (fun Z _ _ C kc hin hmc hms Q => ?_)
  show xc_ Z 0 0 0 [some (.ref 11), some (.int 4), some (.int 80), none] [] (11, ρ, h)
  refine xc_aload_n C (dd_X5_init.at 0 rfl) rfl (lb_ rfl) ?_
  refine xc_objInit C (dd_X5_init.at 1 rfl) lo_RX5_3 ⟨lb_ rfl, lb_ rfl⟩ (lb_ rfl) (lb_ rfl) ?_
  refine xc_aload_n C (dd_X5_init.at 2 rfl) rfl (lb_ rfl) ?_
  refine xc_iload_n C (dd_X5_init.at 3 rfl) rfl ?_
  refine xc_iload_n C (dd_X5_init.at 4 rfl) rfl ?_
  refine xc_mna (N := 4) (L := 80) C kc (by decide) (by decide) (by decide) (by decide) (by decide) (by decide) (by decide) cl_RX5_9 ac_int sh_k12 (by show ∀ j, j < 4 → sh_ (13 + j) = (1, 80); decide) (by rw [hmc]; exact lb_ rfl) (by rw [hms]; exact lb_ rfl) (dd_X5_init.at 5 rfl) ?_
  show xc_ Z 5 324 11 [some (.ref 11), some (.int 4), some (.int 80), none] [.ref 12, .ref 11] (16, (rm2_ ρ 12 4), h)
  refine xc_putR (j := 0) C hin ck_4 (lb_ rfl) lp_RX5_11 rfl (Or.inr ⟨_, rfl⟩) sh_k11 (lb_ rfl) rfl ⟨lb_ rfl, lb_ rfl⟩ (dd_X5_init.at 6 rfl) ?_
  show xc_ Z 5 324 14 [some (.ref 11), some (.int 4), some (.int 80), none] [] (16, (hh_up (rm2_ ρ 12 4) 11 0 12), h)
  refine xc_aload_n C (dd_X5_init.at 7 rfl) rfl (lb_ rfl) ?_
  refine xc_iload_n C (dd_X5_init.at 8 rfl) rfl ?_
  refine xc_newa (N := 4) C kc (by decide) (by decide) (by decide) ac_int sh_k17 (by rw [hmc]; exact lb_ rfl) (by rw [hms]; exact lb_ rfl) (dd_X5_init.at 9 rfl) ?_
  show xc_ Z 6 328 18 [some (.ref 11), some (.int 4), some (.int 80), none] [.ref 17, .ref 11] (17, (hh_up (rm2_ ρ 12 4) 11 0 12), h)
  refine xc_putR (j := 1) C hin ck_4 (lb_ rfl) lp_RX5_16 rfl (Or.inr ⟨_, rfl⟩) sh_k11 (lb_ rfl) rfl ⟨lb_ rfl, lb_ rfl⟩ (dd_X5_init.at 10 rfl) ?_
  show xc_ Z 6 328 21 [some (.ref 11), some (.int 4), some (.int 80), none] [] (17, (hh_up (hh_up (rm2_ ρ 12 4) 11 0 12) 11 1 17), h)
  refine xc_iconst C (dd_X5_init.at 11 rfl) ic_0 ?_
  refine xc_istore_n (lv' := [_, _, _, _]) C (dd_X5_init.at 12 rfl) (lb_ rfl) rfl ?_
  refine xc_iload_n C (dd_X5_init.at 13 rfl) rfl ?_
  refine xc_iload_n C (dd_X5_init.at 14 rfl) rfl ?_
  refine xc_icmp_ge_f (tgt := 41) C (dd_X5_init.at 15 rfl) (by decide) (by decide) ?_
  refine xc_aload_n C (dd_X5_init.at 16 rfl) rfl (lb_ rfl) ?_
  refine xc_getR (j := 1) (r := 17) C ck_4 (lb_ rfl) lg_RX5_16 sh_k11 (lb_ rfl) rfl (lb_ rfl) rfl (by rw [hmc]; exact lb_ rfl) (by rw [hms]; exact lb_ rfl) (dd_X5_init.at 17 rfl) ?_
  refine xc_iload_n C (dd_X5_init.at 18 rfl) rfl ?_
  refine xc_iconst C (dd_X5_init.at 19 rfl) ic_m1 ?_
  refine xc_iastore (i0 := 0) C (dd_X5_init.at 20 rfl) sh_k17 (lb_ rfl) (bi_ok (i := 0) (n := 4) rfl) (by decide) ?_
  show xc_ Z 6 328 35 [some (.ref 11), some (.int 4), some (.int 80), some (.int 0)] [] (17, (hh_up (hh_up (rm2_ ρ 12 4) 11 0 12) 11 1 17), (hh_sI h 17 0 (-1)))
  refine xc_iinc (v := 1) (lv' := [_, _, _, _]) C (dd_X5_init.at 21 rfl) (lb_ rfl) rfl (by rw [ic_1]; decide) rfl ?_
  refine xc_goto (tgt := 23) C (dd_X5_init.at 22 rfl) (by decide) ?_
  refine xc_iload_n C (dd_X5_init.at 13 rfl) rfl ?_
  refine xc_iload_n C (dd_X5_init.at 14 rfl) rfl ?_
  refine xc_icmp_ge_f (tgt := 41) C (dd_X5_init.at 15 rfl) (by decide) (by decide) ?_
  refine xc_aload_n C (dd_X5_init.at 16 rfl) rfl (lb_ rfl) ?_
  refine xc_getR (j := 1) (r := 17) C ck_4 (lb_ rfl) lg_RX5_16 sh_k11 (lb_ rfl) rfl (lb_ rfl) rfl (by rw [hmc]; exact lb_ rfl) (by rw [hms]; exact lb_ rfl) (dd_X5_init.at 17 rfl) ?_
  refine xc_iload_n C (dd_X5_init.at 18 rfl) rfl ?_
  refine xc_iconst C (dd_X5_init.at 19 rfl) ic_m1 ?_
  refine xc_iastore (i0 := 1) C (dd_X5_init.at 20 rfl) sh_k17 (lb_ rfl) (bi_ok (i := 1) (n := 4) rfl) (by decide) ?_
  show xc_ Z 6 328 35 [some (.ref 11), some (.int 4), some (.int 80), some (.int 1)] [] (17, (hh_up (hh_up (rm2_ ρ 12 4) 11 0 12) 11 1 17), (hh_sI (hh_sI h 17 0 (-1)) 17 1 (-1)))
  refine xc_iinc (v := 2) (lv' := [_, _, _, _]) C (dd_X5_init.at 21 rfl) (lb_ rfl) rfl (by rw [ic_1]; decide) rfl ?_
  refine xc_goto (tgt := 23) C (dd_X5_init.at 22 rfl) (by decide) ?_
  refine xc_iload_n C (dd_X5_init.at 13 rfl) rfl ?_
  refine xc_iload_n C (dd_X5_init.at 14 rfl) rfl ?_
  refine xc_icmp_ge_f (tgt := 41) C (dd_X5_init.at 15 rfl) (by decide) (by decide) ?_
  refine xc_aload_n C (dd_X5_init.at 16 rfl) rfl (lb_ rfl) ?_
  refine xc_getR (j := 1) (r := 17) C ck_4 (lb_ rfl) lg_RX5_16 sh_k11 (lb_ rfl) rfl (lb_ rfl) rfl (by rw [hmc]; exact lb_ rfl) (by rw [hms]; exact lb_ rfl) (dd_X5_init.at 17 rfl) ?_
  refine xc_iload_n C (dd_X5_init.at 18 rfl) rfl ?_
  refine xc_iconst C (dd_X5_init.at 19 rfl) ic_m1 ?_
  refine xc_iastore (i0 := 2) C (dd_X5_init.at 20 rfl) sh_k17 (lb_ rfl) (bi_ok (i := 2) (n := 4) rfl) (by decide) ?_
  show xc_ Z 6 328 35 [some (.ref 11), some (.int 4), some (.int 80), some (.int 2)] [] (17, (hh_up (hh_up (rm2_ ρ 12 4) 11 0 12) 11 1 17), (hh_sI (hh_sI (hh_sI h 17 0 (-1)) 17 1 (-1)) 17 2 (-1)))
  refine xc_iinc (v := 3) (lv' := [_, _, _, _]) C (dd_X5_init.at 21 rfl) (lb_ rfl) rfl (by rw [ic_1]; decide) rfl ?_
  refine xc_goto (tgt := 23) C (dd_X5_init.at 22 rfl) (by decide) ?_
  refine xc_iload_n C (dd_X5_init.at 13 rfl) rfl ?_
  refine xc_iload_n C (dd_X5_init.at 14 rfl) rfl ?_
  refine xc_icmp_ge_f (tgt := 41) C (dd_X5_init.at 15 rfl) (by decide) (by decide) ?_
  refine xc_aload_n C (dd_X5_init.at 16 rfl) rfl (lb_ rfl) ?_
  refine xc_getR (j := 1) (r := 17) C ck_4 (lb_ rfl) lg_RX5_16 sh_k11 (lb_ rfl) rfl (lb_ rfl) rfl (by rw [hmc]; exact lb_ rfl) (by rw [hms]; exact lb_ rfl) (dd_X5_init.at 17 rfl) ?_
  refine xc_iload_n C (dd_X5_init.at 18 rfl) rfl ?_
  refine xc_iconst C (dd_X5_init.at 19 rfl) ic_m1 ?_
  refine xc_iastore (i0 := 3) C (dd_X5_init.at 20 rfl) sh_k17 (lb_ rfl) (bi_ok (i := 3) (n := 4) rfl) (by decide) ?_
  show xc_ Z 6 328 35 [some (.ref 11), some (.int 4), some (.int 80), some (.int 3)] [] (17, (hh_up (hh_up (rm2_ ρ 12 4) 11 0 12) 11 1 17), (hh_sI (hh_sI (hh_sI (hh_sI h 17 0 (-1)) 17 1 (-1)) 17 2 (-1)) 17 3 (-1)))
  refine xc_iinc (v := 4) (lv' := [_, _, _, _]) C (dd_X5_init.at 21 rfl) (lb_ rfl) rfl (by rw [ic_1]; decide) rfl ?_
  refine xc_goto (tgt := 23) C (dd_X5_init.at 22 rfl) (by decide) ?_
  refine xc_iload_n C (dd_X5_init.at 13 rfl) rfl ?_
  refine xc_iload_n C (dd_X5_init.at 14 rfl) rfl ?_
  refine xc_icmp_ge_t (tgt := 41) C (dd_X5_init.at 15 rfl) (by decide) (by decide) ?_
  exact xc_return C kc Q (lb_ rfl) (lb_ rfl) (dd_X5_init.at 23 rfl) rfl
theorem sc_X4_init_19 {l : Launch} {G : gt_} {ρ : Nat → Nat → Nat} {h : hh_} : okc_ l G 1 0 0 mt_X4_init [.ref 19] (19, ρ, h) (19, ρ, h) := by
  refine okc_of pn_RX4 rfl (lb_ rfl) (fun Z _ _ C kc hin hmc hms Q => ?_)
  show xc_ Z 0 0 0 [some (.ref 19)] [] (19, ρ, h)
  refine xc_aload_n C (dd_X4_init.at 0 rfl) rfl (lb_ rfl) ?_
  refine xc_objInit C (dd_X4_init.at 1 rfl) lo_RX4_3 ⟨lb_ rfl, lb_ rfl⟩ (lb_ rfl) (lb_ rfl) ?_
  exact xc_return C kc Q (lb_ rfl) (lb_ rfl) (dd_X4_init.at 2 rfl) rfl
theorem sc_X3_init_20 {l : Launch} {G : gt_} {ρ : Nat → Nat → Nat} {h : hh_} : okc_ l G 1 15 209 mt_X3_init [.ref 20] (20, ρ, h) (35, (hh_up (rm2_ (hh_up (rm2_ (hh_up ρ 20 0 21) 22 6) 20 1 22) 29 6) 20 2 29), h) := by
  refine okc_of pn_RX3 rfl (lb_ rfl) (fun Z _ _ C kc hin hmc hms Q => ?_)
  show xc_ Z 0 0 0 [some (.ref 20)] [] (20, ρ, h)
  refine xc_aload_n C (dd_X3_init.at 0 rfl) rfl (lb_ rfl) ?_
  refine xc_objInit C (dd_X3_init.at 1 rfl) lo_RX3_3 ⟨lb_ rfl, lb_ rfl⟩ (lb_ rfl) (lb_ rfl) ?_
  refine xc_aload_n C (dd_X3_init.at 2 rfl) rfl (lb_ rfl) ?_
  refine xc_iconst C (dd_X3_init.at 3 rfl) ic_5 ?_
  refine xc_newa (N := 5) C kc (by decide) (by decide) (by decide) ac_int sh_k21 (by rw [hmc]; exact lb_ rfl) (by rw [hms]; exact lb_ rfl) (dd_X3_init.at 4 rfl) ?_
  show xc_ Z 1 5 8 [some (.ref 20)] [.ref 21, .ref 20] (21, ρ, h)
  refine xc_putR (j := 0) C hin ck_2 (lb_ rfl) lp_RX3_9 rfl (Or.inr ⟨_, rfl⟩) sh_k20 (lb_ rfl) rfl ⟨lb_ rfl, lb_ rfl⟩ (dd_X3_init.at 5 rfl) ?_
  show xc_ Z 1 5 11 [some (.ref 20)] [] (21, (hh_up ρ 20 0 21), h)
  refine xc_aload_n C (dd_X3_init.at 6 rfl) rfl (lb_ rfl) ?_
  refine xc_bipush C (dd_X3_init.at 7 rfl) bq_6 ?_
  refine xc_bipush C (dd_X3_init.at 8 rfl) bq_16 ?_
  refine xc_mna (N := 6) (L := 16) C kc (by decide) (by decide) (by decide) (by decide) (by decide) (by decide) (by decide) cl_RX3_15 ac_int sh_k22 (by show ∀ j, j < 6 → sh_ (23 + j) = (1, 16); decide) (by rw [hmc]; exact lb_ rfl) (by rw [hms]; exact lb_ rfl) (dd_X3_init.at 9 rfl) ?_
  show xc_ Z 8 107 20 [some (.ref 20)] [.ref 22, .ref 20] (28, (rm2_ (hh_up ρ 20 0 21) 22 6), h)
  refine xc_putR (j := 1) C hin ck_2 (lb_ rfl) lp_RX3_17 rfl (Or.inr ⟨_, rfl⟩) sh_k20 (lb_ rfl) rfl ⟨lb_ rfl, lb_ rfl⟩ (dd_X3_init.at 10 rfl) ?_
  show xc_ Z 8 107 23 [some (.ref 20)] [] (28, (hh_up (rm2_ (hh_up ρ 20 0 21) 22 6) 20 1 22), h)
  refine xc_aload_n C (dd_X3_init.at 11 rfl) rfl (lb_ rfl) ?_
  refine xc_bipush C (dd_X3_init.at 12 rfl) bq_6 ?_
  refine xc_bipush C (dd_X3_init.at 13 rfl) bq_16 ?_
  refine xc_mna (N := 6) (L := 16) C kc (by decide) (by decide) (by decide) (by decide) (by decide) (by decide) (by decide) cl_RX3_15 ac_int sh_k29 (by show ∀ j, j < 6 → sh_ (30 + j) = (1, 16); decide) (by rw [hmc]; exact lb_ rfl) (by rw [hms]; exact lb_ rfl) (dd_X3_init.at 14 rfl) ?_
  show xc_ Z 15 209 32 [some (.ref 20)] [.ref 29, .ref 20] (35, (rm2_ (hh_up (rm2_ (hh_up ρ 20 0 21) 22 6) 20 1 22) 29 6), h)
  refine xc_putR (j := 2) C hin ck_2 (lb_ rfl) lp_RX3_20 rfl (Or.inr ⟨_, rfl⟩) sh_k20 (lb_ rfl) rfl ⟨lb_ rfl, lb_ rfl⟩ (dd_X3_init.at 15 rfl) ?_
  show xc_ Z 15 209 35 [some (.ref 20)] [] (35, (hh_up (rm2_ (hh_up (rm2_ (hh_up ρ 20 0 21) 22 6) 20 1 22) 29 6) 20 2 29), h)
  exact xc_return C kc Q (lb_ rfl) (lb_ rfl) (dd_X3_init.at 16 rfl) rfl
theorem sc_X6_init_36 {l : Launch} {G : gt_} {ρ : Nat → Nat → Nat} {h : hh_} : okc_ l G 1 1 6 mt_X6_init [.ref 36] (36, ρ, h) (37, (hh_up ρ 36 0 37), (hh_sL h 36 4 1)) := by
  refine okc_of pn_RX6 rfl (lb_ rfl) (fun Z _ _ C kc hin hmc hms Q => ?_)
  show xc_ Z 0 0 0 [some (.ref 36)] [] (36, ρ, h)
  refine xc_aload_n C (dd_X6_init.at 0 rfl) rfl (lb_ rfl) ?_
  refine xc_objInit C (dd_X6_init.at 1 rfl) lo_RX6_3 ⟨lb_ rfl, lb_ rfl⟩ (lb_ rfl) (lb_ rfl) ?_
  refine xc_aload_n C (dd_X6_init.at 2 rfl) rfl (lb_ rfl) ?_
  refine xc_bipush C (dd_X6_init.at 3 rfl) bq_6 ?_
  refine xc_newa (N := 6) C kc (by decide) (by decide) (by decide) ac_int sh_k37 (by rw [hmc]; exact lb_ rfl) (by rw [hms]; exact lb_ rfl) (dd_X6_init.at 4 rfl) ?_
  show xc_ Z 1 6 9 [some (.ref 36)] [.ref 37, .ref 36] (37, ρ, h)
  refine xc_putR (j := 0) C hin ck_5 (lb_ rfl) lp_RX6_9 rfl (Or.inr ⟨_, rfl⟩) sh_k36 (lb_ rfl) rfl ⟨lb_ rfl, lb_ rfl⟩ (dd_X6_init.at 5 rfl) ?_
  show xc_ Z 1 6 12 [some (.ref 36)] [] (37, (hh_up ρ 36 0 37), h)
  refine xc_aload_n C (dd_X6_init.at 6 rfl) rfl (lb_ rfl) ?_
  refine xc_lconst (v := 1) C (dd_X6_init.at 7 rfl) rfl ?_
  refine xc_putL (j := 4) C hin ck_5 (lb_ rfl) lp_RX6_15 rfl rfl sh_k36 (lb_ rfl) rfl (dd_X6_init.at 8 rfl) ?_
  show xc_ Z 1 6 17 [some (.ref 36)] [] (37, (hh_up ρ 36 0 37), (hh_sL h 36 4 1))
  exact xc_return C kc Q (lb_ rfl) (lb_ rfl) (dd_X6_init.at 9 rfl) rfl
theorem sc_X2_init_39 {l : Launch} {G : gt_} {ρ : Nat → Nat → Nat} {h : hh_} : okc_ l G 1 24 143 mt_X2_init [.ref 39] (39, ρ, h) (63, (hh_up (hh_up (hh_up (rm2_ (hh_up (rm2_ (hh_up (rm2_ (hh_up (rm2_ ρ 40 5) 39 0 40) 46 5) 39 1 46) 52 4) 39 2 52) 57 4) 39 3 57) 39 4 62) 39 5 63), h) := by
  refine okc_of pn_RX2 rfl (lb_ rfl) (fun Z _ _ C kc hin hmc hms Q => ?_)
  show xc_ Z 0 0 0 [some (.ref 39)] [] (39, ρ, h)
  refine xc_aload_n C (dd_X2_init.at 0 rfl) rfl (lb_ rfl) ?_
  refine xc_objInit C (dd_X2_init.at 1 rfl) lo_RX2_3 ⟨lb_ rfl, lb_ rfl⟩ (lb_ rfl) (lb_ rfl) ?_
  refine xc_aload_n C (dd_X2_init.at 2 rfl) rfl (lb_ rfl) ?_
  refine xc_iconst C (dd_X2_init.at 3 rfl) ic_5 ?_
  refine xc_iconst C (dd_X2_init.at 4 rfl) ic_5 ?_
  refine xc_mna (N := 5) (L := 5) C kc (by decide) (by decide) (by decide) (by decide) (by decide) (by decide) (by decide) cl_RX2_9 ac_int sh_k40 (by show ∀ j, j < 5 → sh_ (41 + j) = (1, 5); decide) (by rw [hmc]; exact lb_ rfl) (by rw [hms]; exact lb_ rfl) (dd_X2_init.at 5 rfl) ?_
  show xc_ Z 6 30 11 [some (.ref 39)] [.ref 40, .ref 39] (45, (rm2_ ρ 40 5), h)
  refine xc_putR (j := 0) C hin ck_1 (lb_ rfl) lp_RX2_11 rfl (Or.inr ⟨_, rfl⟩) sh_k39 (lb_ rfl) rfl ⟨lb_ rfl, lb_ rfl⟩ (dd_X2_init.at 6 rfl) ?_
  show xc_ Z 6 30 14 [some (.ref 39)] [] (45, (hh_up (rm2_ ρ 40 5) 39 0 40), h)
  refine xc_aload_n C (dd_X2_init.at 7 rfl) rfl (lb_ rfl) ?_
  refine xc_iconst C (dd_X2_init.at 8 rfl) ic_5 ?_
  refine xc_iconst C (dd_X2_init.at 9 rfl) ic_5 ?_
  refine xc_mna (N := 5) (L := 5) C kc (by decide) (by decide) (by decide) (by decide) (by decide) (by decide) (by decide) cl_RX2_9 ac_int sh_k46 (by show ∀ j, j < 5 → sh_ (47 + j) = (1, 5); decide) (by rw [hmc]; exact lb_ rfl) (by rw [hms]; exact lb_ rfl) (dd_X2_init.at 10 rfl) ?_
  show xc_ Z 12 60 21 [some (.ref 39)] [.ref 46, .ref 39] (51, (rm2_ (hh_up (rm2_ ρ 40 5) 39 0 40) 46 5), h)
  refine xc_putR (j := 1) C hin ck_1 (lb_ rfl) lp_RX2_16 rfl (Or.inr ⟨_, rfl⟩) sh_k39 (lb_ rfl) rfl ⟨lb_ rfl, lb_ rfl⟩ (dd_X2_init.at 11 rfl) ?_
  show xc_ Z 12 60 24 [some (.ref 39)] [] (51, (hh_up (rm2_ (hh_up (rm2_ ρ 40 5) 39 0 40) 46 5) 39 1 46), h)
  refine xc_aload_n C (dd_X2_init.at 12 rfl) rfl (lb_ rfl) ?_
  refine xc_iconst C (dd_X2_init.at 13 rfl) ic_4 ?_
  refine xc_iconst C (dd_X2_init.at 14 rfl) ic_3 ?_
  refine xc_mna (N := 4) (L := 3) C kc (by decide) (by decide) (by decide) (by decide) (by decide) (by decide) (by decide) cl_RX2_9 ac_int sh_k52 (by show ∀ j, j < 4 → sh_ (53 + j) = (1, 3); decide) (by rw [hmc]; exact lb_ rfl) (by rw [hms]; exact lb_ rfl) (dd_X2_init.at 15 rfl) ?_
  show xc_ Z 17 76 31 [some (.ref 39)] [.ref 52, .ref 39] (56, (rm2_ (hh_up (rm2_ (hh_up (rm2_ ρ 40 5) 39 0 40) 46 5) 39 1 46) 52 4), h)
  refine xc_putR (j := 2) C hin ck_1 (lb_ rfl) lp_RX2_19 rfl (Or.inr ⟨_, rfl⟩) sh_k39 (lb_ rfl) rfl ⟨lb_ rfl, lb_ rfl⟩ (dd_X2_init.at 16 rfl) ?_
  show xc_ Z 17 76 34 [some (.ref 39)] [] (56, (hh_up (rm2_ (hh_up (rm2_ (hh_up (rm2_ ρ 40 5) 39 0 40) 46 5) 39 1 46) 52 4) 39 2 52), h)
  refine xc_aload_n C (dd_X2_init.at 17 rfl) rfl (lb_ rfl) ?_
  refine xc_iconst C (dd_X2_init.at 18 rfl) ic_4 ?_
  refine xc_iconst C (dd_X2_init.at 19 rfl) ic_5 ?_
  refine xc_mna (N := 4) (L := 5) C kc (by decide) (by decide) (by decide) (by decide) (by decide) (by decide) (by decide) cl_RX2_9 ac_int sh_k57 (by show ∀ j, j < 4 → sh_ (58 + j) = (1, 5); decide) (by rw [hmc]; exact lb_ rfl) (by rw [hms]; exact lb_ rfl) (dd_X2_init.at 20 rfl) ?_
  show xc_ Z 22 100 41 [some (.ref 39)] [.ref 57, .ref 39] (61, (rm2_ (hh_up (rm2_ (hh_up (rm2_ (hh_up (rm2_ ρ 40 5) 39 0 40) 46 5) 39 1 46) 52 4) 39 2 52) 57 4), h)
  refine xc_putR (j := 3) C hin ck_1 (lb_ rfl) lp_RX2_22 rfl (Or.inr ⟨_, rfl⟩) sh_k39 (lb_ rfl) rfl ⟨lb_ rfl, lb_ rfl⟩ (dd_X2_init.at 21 rfl) ?_
  show xc_ Z 22 100 44 [some (.ref 39)] [] (61, (hh_up (rm2_ (hh_up (rm2_ (hh_up (rm2_ (hh_up (rm2_ ρ 40 5) 39 0 40) 46 5) 39 1 46) 52 4) 39 2 52) 57 4) 39 3 57), h)
  refine xc_aload_n C (dd_X2_init.at 22 rfl) rfl (lb_ rfl) ?_
  refine xc_iconst C (dd_X2_init.at 23 rfl) ic_3 ?_
  refine xc_newa (N := 3) C kc (by decide) (by decide) (by decide) ac_int sh_k62 (by rw [hmc]; exact lb_ rfl) (by rw [hms]; exact lb_ rfl) (dd_X2_init.at 24 rfl) ?_
  show xc_ Z 23 103 48 [some (.ref 39)] [.ref 62, .ref 39] (62, (hh_up (rm2_ (hh_up (rm2_ (hh_up (rm2_ (hh_up (rm2_ ρ 40 5) 39 0 40) 46 5) 39 1 46) 52 4) 39 2 52) 57 4) 39 3 57), h)
  refine xc_putR (j := 4) C hin ck_1 (lb_ rfl) lp_RX2_25 rfl (Or.inr ⟨_, rfl⟩) sh_k39 (lb_ rfl) rfl ⟨lb_ rfl, lb_ rfl⟩ (dd_X2_init.at 25 rfl) ?_
  show xc_ Z 23 103 51 [some (.ref 39)] [] (62, (hh_up (hh_up (rm2_ (hh_up (rm2_ (hh_up (rm2_ (hh_up (rm2_ ρ 40 5) 39 0 40) 46 5) 39 1 46) 52 4) 39 2 52) 57 4) 39 3 57) 39 4 62), h)
  refine xc_aload_n C (dd_X2_init.at 26 rfl) rfl (lb_ rfl) ?_
  refine xc_bipush C (dd_X2_init.at 27 rfl) bq_40 ?_
  refine xc_newa (N := 40) C kc (by decide) (by decide) (by decide) ac_int sh_k63 (by rw [hmc]; exact lb_ rfl) (by rw [hms]; exact lb_ rfl) (dd_X2_init.at 28 rfl) ?_
  show xc_ Z 24 143 56 [some (.ref 39)] [.ref 63, .ref 39] (63, (hh_up (hh_up (rm2_ (hh_up (rm2_ (hh_up (rm2_ (hh_up (rm2_ ρ 40 5) 39 0 40) 46 5) 39 1 46) 52 4) 39 2 52) 57 4) 39 3 57) 39 4 62), h)
  refine xc_putR (j := 5) C hin ck_1 (lb_ rfl) lp_RX2_29 rfl (Or.inr ⟨_, rfl⟩) sh_k39 (lb_ rfl) rfl ⟨lb_ rfl, lb_ rfl⟩ (dd_X2_init.at 29 rfl) ?_
  show xc_ Z 24 143 59 [some (.ref 39)] [] (63, (hh_up (hh_up (hh_up (rm2_ (hh_up (rm2_ (hh_up (rm2_ (hh_up (rm2_ ρ 40 5) 39 0 40) 46 5) 39 1 46) 52 4) 39 2 52) 57 4) 39 3 57) 39 4 62) 39 5 63), h)
  exact xc_return C kc Q (lb_ rfl) (lb_ rfl) (dd_X2_init.at 30 rfl) rfl
theorem sc_X2_init_64 {l : Launch} {G : gt_} {ρ : Nat → Nat → Nat} {h : hh_} : okc_ l G 1 24 143 mt_X2_init [.ref 64] (64, ρ, h) (88, (hh_up (hh_up (hh_up (rm2_ (hh_up (rm2_ (hh_up (rm2_ (hh_up (rm2_ ρ 65 5) 64 0 65) 71 5) 64 1 71) 77 4) 64 2 77) 82 4) 64 3 82) 64 4 87) 64 5 88), h) := by
  refine okc_of pn_RX2 rfl (lb_ rfl) (fun Z _ _ C kc hin hmc hms Q => ?_)
  show xc_ Z 0 0 0 [some (.ref 64)] [] (64, ρ, h)
  refine xc_aload_n C (dd_X2_init.at 0 rfl) rfl (lb_ rfl) ?_
  refine xc_objInit C (dd_X2_init.at 1 rfl) lo_RX2_3 ⟨lb_ rfl, lb_ rfl⟩ (lb_ rfl) (lb_ rfl) ?_
  refine xc_aload_n C (dd_X2_init.at 2 rfl) rfl (lb_ rfl) ?_
  refine xc_iconst C (dd_X2_init.at 3 rfl) ic_5 ?_
  refine xc_iconst C (dd_X2_init.at 4 rfl) ic_5 ?_
  refine xc_mna (N := 5) (L := 5) C kc (by decide) (by decide) (by decide) (by decide) (by decide) (by decide) (by decide) cl_RX2_9 ac_int sh_k65 (by show ∀ j, j < 5 → sh_ (66 + j) = (1, 5); decide) (by rw [hmc]; exact lb_ rfl) (by rw [hms]; exact lb_ rfl) (dd_X2_init.at 5 rfl) ?_
  show xc_ Z 6 30 11 [some (.ref 64)] [.ref 65, .ref 64] (70, (rm2_ ρ 65 5), h)
  refine xc_putR (j := 0) C hin ck_1 (lb_ rfl) lp_RX2_11 rfl (Or.inr ⟨_, rfl⟩) sh_k64 (lb_ rfl) rfl ⟨lb_ rfl, lb_ rfl⟩ (dd_X2_init.at 6 rfl) ?_
  show xc_ Z 6 30 14 [some (.ref 64)] [] (70, (hh_up (rm2_ ρ 65 5) 64 0 65), h)
  refine xc_aload_n C (dd_X2_init.at 7 rfl) rfl (lb_ rfl) ?_
  refine xc_iconst C (dd_X2_init.at 8 rfl) ic_5 ?_
  refine xc_iconst C (dd_X2_init.at 9 rfl) ic_5 ?_
  refine xc_mna (N := 5) (L := 5) C kc (by decide) (by decide) (by decide) (by decide) (by decide) (by decide) (by decide) cl_RX2_9 ac_int sh_k71 (by show ∀ j, j < 5 → sh_ (72 + j) = (1, 5); decide) (by rw [hmc]; exact lb_ rfl) (by rw [hms]; exact lb_ rfl) (dd_X2_init.at 10 rfl) ?_
  show xc_ Z 12 60 21 [some (.ref 64)] [.ref 71, .ref 64] (76, (rm2_ (hh_up (rm2_ ρ 65 5) 64 0 65) 71 5), h)
  refine xc_putR (j := 1) C hin ck_1 (lb_ rfl) lp_RX2_16 rfl (Or.inr ⟨_, rfl⟩) sh_k64 (lb_ rfl) rfl ⟨lb_ rfl, lb_ rfl⟩ (dd_X2_init.at 11 rfl) ?_
  show xc_ Z 12 60 24 [some (.ref 64)] [] (76, (hh_up (rm2_ (hh_up (rm2_ ρ 65 5) 64 0 65) 71 5) 64 1 71), h)
  refine xc_aload_n C (dd_X2_init.at 12 rfl) rfl (lb_ rfl) ?_
  refine xc_iconst C (dd_X2_init.at 13 rfl) ic_4 ?_
  refine xc_iconst C (dd_X2_init.at 14 rfl) ic_3 ?_
  refine xc_mna (N := 4) (L := 3) C kc (by decide) (by decide) (by decide) (by decide) (by decide) (by decide) (by decide) cl_RX2_9 ac_int sh_k77 (by show ∀ j, j < 4 → sh_ (78 + j) = (1, 3); decide) (by rw [hmc]; exact lb_ rfl) (by rw [hms]; exact lb_ rfl) (dd_X2_init.at 15 rfl) ?_
  show xc_ Z 17 76 31 [some (.ref 64)] [.ref 77, .ref 64] (81, (rm2_ (hh_up (rm2_ (hh_up (rm2_ ρ 65 5) 64 0 65) 71 5) 64 1 71) 77 4), h)
  refine xc_putR (j := 2) C hin ck_1 (lb_ rfl) lp_RX2_19 rfl (Or.inr ⟨_, rfl⟩) sh_k64 (lb_ rfl) rfl ⟨lb_ rfl, lb_ rfl⟩ (dd_X2_init.at 16 rfl) ?_
  show xc_ Z 17 76 34 [some (.ref 64)] [] (81, (hh_up (rm2_ (hh_up (rm2_ (hh_up (rm2_ ρ 65 5) 64 0 65) 71 5) 64 1 71) 77 4) 64 2 77), h)
  refine xc_aload_n C (dd_X2_init.at 17 rfl) rfl (lb_ rfl) ?_
  refine xc_iconst C (dd_X2_init.at 18 rfl) ic_4 ?_
  refine xc_iconst C (dd_X2_init.at 19 rfl) ic_5 ?_
  refine xc_mna (N := 4) (L := 5) C kc (by decide) (by decide) (by decide) (by decide) (by decide) (by decide) (by decide) cl_RX2_9 ac_int sh_k82 (by show ∀ j, j < 4 → sh_ (83 + j) = (1, 5); decide) (by rw [hmc]; exact lb_ rfl) (by rw [hms]; exact lb_ rfl) (dd_X2_init.at 20 rfl) ?_
  show xc_ Z 22 100 41 [some (.ref 64)] [.ref 82, .ref 64] (86, (rm2_ (hh_up (rm2_ (hh_up (rm2_ (hh_up (rm2_ ρ 65 5) 64 0 65) 71 5) 64 1 71) 77 4) 64 2 77) 82 4), h)
  refine xc_putR (j := 3) C hin ck_1 (lb_ rfl) lp_RX2_22 rfl (Or.inr ⟨_, rfl⟩) sh_k64 (lb_ rfl) rfl ⟨lb_ rfl, lb_ rfl⟩ (dd_X2_init.at 21 rfl) ?_
  show xc_ Z 22 100 44 [some (.ref 64)] [] (86, (hh_up (rm2_ (hh_up (rm2_ (hh_up (rm2_ (hh_up (rm2_ ρ 65 5) 64 0 65) 71 5) 64 1 71) 77 4) 64 2 77) 82 4) 64 3 82), h)
  refine xc_aload_n C (dd_X2_init.at 22 rfl) rfl (lb_ rfl) ?_
  refine xc_iconst C (dd_X2_init.at 23 rfl) ic_3 ?_
  refine xc_newa (N := 3) C kc (by decide) (by decide) (by decide) ac_int sh_k87 (by rw [hmc]; exact lb_ rfl) (by rw [hms]; exact lb_ rfl) (dd_X2_init.at 24 rfl) ?_
  show xc_ Z 23 103 48 [some (.ref 64)] [.ref 87, .ref 64] (87, (hh_up (rm2_ (hh_up (rm2_ (hh_up (rm2_ (hh_up (rm2_ ρ 65 5) 64 0 65) 71 5) 64 1 71) 77 4) 64 2 77) 82 4) 64 3 82), h)
  refine xc_putR (j := 4) C hin ck_1 (lb_ rfl) lp_RX2_25 rfl (Or.inr ⟨_, rfl⟩) sh_k64 (lb_ rfl) rfl ⟨lb_ rfl, lb_ rfl⟩ (dd_X2_init.at 25 rfl) ?_
  show xc_ Z 23 103 51 [some (.ref 64)] [] (87, (hh_up (hh_up (rm2_ (hh_up (rm2_ (hh_up (rm2_ (hh_up (rm2_ ρ 65 5) 64 0 65) 71 5) 64 1 71) 77 4) 64 2 77) 82 4) 64 3 82) 64 4 87), h)
  refine xc_aload_n C (dd_X2_init.at 26 rfl) rfl (lb_ rfl) ?_
  refine xc_bipush C (dd_X2_init.at 27 rfl) bq_40 ?_
  refine xc_newa (N := 40) C kc (by decide) (by decide) (by decide) ac_int sh_k88 (by rw [hmc]; exact lb_ rfl) (by rw [hms]; exact lb_ rfl) (dd_X2_init.at 28 rfl) ?_
  show xc_ Z 24 143 56 [some (.ref 64)] [.ref 88, .ref 64] (88, (hh_up (hh_up (rm2_ (hh_up (rm2_ (hh_up (rm2_ (hh_up (rm2_ ρ 65 5) 64 0 65) 71 5) 64 1 71) 77 4) 64 2 77) 82 4) 64 3 82) 64 4 87), h)
  refine xc_putR (j := 5) C hin ck_1 (lb_ rfl) lp_RX2_29 rfl (Or.inr ⟨_, rfl⟩) sh_k64 (lb_ rfl) rfl ⟨lb_ rfl, lb_ rfl⟩ (dd_X2_init.at 29 rfl) ?_
  show xc_ Z 24 143 59 [some (.ref 64)] [] (88, (hh_up (hh_up (hh_up (rm2_ (hh_up (rm2_ (hh_up (rm2_ (hh_up (rm2_ ρ 65 5) 64 0 65) 71 5) 64 1 71) 77 4) 64 2 77) 82 4) 64 3 82) 64 4 87) 64 5 88), h)
  exact xc_return C kc Q (lb_ rfl) (lb_ rfl) (dd_X2_init.at 30 rfl) rfl
theorem sc_X0_init_89 {l : Launch} {G : gt_} {ρ : Nat → Nat → Nat} {h : hh_} : okc_ l G 1 2 44 mt_X0_init [.ref 89] (89, ρ, h) (91, (hh_up (hh_up ρ 89 0 90) 89 1 91), (hh_sI h 89 2 (-1))) := by
  refine okc_of pn_RX0 rfl (lb_ rfl) (fun Z _ _ C kc hin hmc hms Q => ?_)
  show xc_ Z 0 0 0 [some (.ref 89)] [] (89, ρ, h)
  refine xc_aload_n C (dd_X0_init.at 0 rfl) rfl (lb_ rfl) ?_
  refine xc_objInit C (dd_X0_init.at 1 rfl) lo_RX0_3 ⟨lb_ rfl, lb_ rfl⟩ (lb_ rfl) (lb_ rfl) ?_
  refine xc_aload_n C (dd_X0_init.at 2 rfl) rfl (lb_ rfl) ?_
  refine xc_bipush C (dd_X0_init.at 3 rfl) bq_40 ?_
  refine xc_newa (N := 40) C kc (by decide) (by decide) (by decide) ac_int sh_k90 (by rw [hmc]; exact lb_ rfl) (by rw [hms]; exact lb_ rfl) (dd_X0_init.at 4 rfl) ?_
  show xc_ Z 1 40 9 [some (.ref 89)] [.ref 90, .ref 89] (90, ρ, h)
  refine xc_putR (j := 0) C hin ck_0 (lb_ rfl) lp_RX0_9 rfl (Or.inr ⟨_, rfl⟩) sh_k89 (lb_ rfl) rfl ⟨lb_ rfl, lb_ rfl⟩ (dd_X0_init.at 5 rfl) ?_
  show xc_ Z 1 40 12 [some (.ref 89)] [] (90, (hh_up ρ 89 0 90), h)
  refine xc_aload_n C (dd_X0_init.at 6 rfl) rfl (lb_ rfl) ?_
  refine xc_iconst C (dd_X0_init.at 7 rfl) ic_4 ?_
  refine xc_newa (N := 4) C kc (by decide) (by decide) (by decide) ac_int sh_k91 (by rw [hmc]; exact lb_ rfl) (by rw [hms]; exact lb_ rfl) (dd_X0_init.at 8 rfl) ?_
  show xc_ Z 2 44 16 [some (.ref 89)] [.ref 91, .ref 89] (91, (hh_up ρ 89 0 90), h)
  refine xc_putR (j := 1) C hin ck_0 (lb_ rfl) lp_RX0_15 rfl (Or.inr ⟨_, rfl⟩) sh_k89 (lb_ rfl) rfl ⟨lb_ rfl, lb_ rfl⟩ (dd_X0_init.at 9 rfl) ?_
  show xc_ Z 2 44 19 [some (.ref 89)] [] (91, (hh_up (hh_up ρ 89 0 90) 89 1 91), h)
  refine xc_aload_n C (dd_X0_init.at 10 rfl) rfl (lb_ rfl) ?_
  refine xc_iconst C (dd_X0_init.at 11 rfl) ic_m1 ?_
  refine xc_putI (j := 2) C hin ck_0 (lb_ rfl) lp_RX0_18 rfl rfl sh_k89 (lb_ rfl) rfl (dd_X0_init.at 12 rfl) ?_
  show xc_ Z 2 44 24 [some (.ref 89)] [] (91, (hh_up (hh_up ρ 89 0 90) 89 1 91), (hh_sI h 89 2 (-1)))
  exact xc_return C kc Q (lb_ rfl) (lb_ rfl) (dd_X0_init.at 13 rfl) rfl
theorem sc_X0_init_92 {l : Launch} {G : gt_} {ρ : Nat → Nat → Nat} {h : hh_} : okc_ l G 1 2 44 mt_X0_init [.ref 92] (92, ρ, h) (94, (hh_up (hh_up ρ 92 0 93) 92 1 94), (hh_sI h 92 2 (-1))) := by
  refine okc_of pn_RX0 rfl (lb_ rfl) (fun Z _ _ C kc hin hmc hms Q => ?_)
  show xc_ Z 0 0 0 [some (.ref 92)] [] (92, ρ, h)
  refine xc_aload_n C (dd_X0_init.at 0 rfl) rfl (lb_ rfl) ?_
  refine xc_objInit C (dd_X0_init.at 1 rfl) lo_RX0_3 ⟨lb_ rfl, lb_ rfl⟩ (lb_ rfl) (lb_ rfl) ?_
  refine xc_aload_n C (dd_X0_init.at 2 rfl) rfl (lb_ rfl) ?_
  refine xc_bipush C (dd_X0_init.at 3 rfl) bq_40 ?_
  refine xc_newa (N := 40) C kc (by decide) (by decide) (by decide) ac_int sh_k93 (by rw [hmc]; exact lb_ rfl) (by rw [hms]; exact lb_ rfl) (dd_X0_init.at 4 rfl) ?_
  show xc_ Z 1 40 9 [some (.ref 92)] [.ref 93, .ref 92] (93, ρ, h)
  refine xc_putR (j := 0) C hin ck_0 (lb_ rfl) lp_RX0_9 rfl (Or.inr ⟨_, rfl⟩) sh_k92 (lb_ rfl) rfl ⟨lb_ rfl, lb_ rfl⟩ (dd_X0_init.at 5 rfl) ?_
  show xc_ Z 1 40 12 [some (.ref 92)] [] (93, (hh_up ρ 92 0 93), h)
  refine xc_aload_n C (dd_X0_init.at 6 rfl) rfl (lb_ rfl) ?_
  refine xc_iconst C (dd_X0_init.at 7 rfl) ic_4 ?_
  refine xc_newa (N := 4) C kc (by decide) (by decide) (by decide) ac_int sh_k94 (by rw [hmc]; exact lb_ rfl) (by rw [hms]; exact lb_ rfl) (dd_X0_init.at 8 rfl) ?_
  show xc_ Z 2 44 16 [some (.ref 92)] [.ref 94, .ref 92] (94, (hh_up ρ 92 0 93), h)
  refine xc_putR (j := 1) C hin ck_0 (lb_ rfl) lp_RX0_15 rfl (Or.inr ⟨_, rfl⟩) sh_k92 (lb_ rfl) rfl ⟨lb_ rfl, lb_ rfl⟩ (dd_X0_init.at 9 rfl) ?_
  show xc_ Z 2 44 19 [some (.ref 92)] [] (94, (hh_up (hh_up ρ 92 0 93) 92 1 94), h)
  refine xc_aload_n C (dd_X0_init.at 10 rfl) rfl (lb_ rfl) ?_
  refine xc_iconst C (dd_X0_init.at 11 rfl) ic_m1 ?_
  refine xc_putI (j := 2) C hin ck_0 (lb_ rfl) lp_RX0_18 rfl rfl sh_k92 (lb_ rfl) rfl (dd_X0_init.at 12 rfl) ?_
  show xc_ Z 2 44 24 [some (.ref 92)] [] (94, (hh_up (hh_up ρ 92 0 93) 92 1 94), (hh_sI h 92 2 (-1)))
  exact xc_return C kc Q (lb_ rfl) (lb_ rfl) (dd_X0_init.at 13 rfl) rfl
theorem sc_X0_init_95 {l : Launch} {G : gt_} {ρ : Nat → Nat → Nat} {h : hh_} : okc_ l G 1 2 44 mt_X0_init [.ref 95] (95, ρ, h) (97, (hh_up (hh_up ρ 95 0 96) 95 1 97), (hh_sI h 95 2 (-1))) := by
  refine okc_of pn_RX0 rfl (lb_ rfl) (fun Z _ _ C kc hin hmc hms Q => ?_)
  show xc_ Z 0 0 0 [some (.ref 95)] [] (95, ρ, h)
  refine xc_aload_n C (dd_X0_init.at 0 rfl) rfl (lb_ rfl) ?_
  refine xc_objInit C (dd_X0_init.at 1 rfl) lo_RX0_3 ⟨lb_ rfl, lb_ rfl⟩ (lb_ rfl) (lb_ rfl) ?_
  refine xc_aload_n C (dd_X0_init.at 2 rfl) rfl (lb_ rfl) ?_
  refine xc_bipush C (dd_X0_init.at 3 rfl) bq_40 ?_
  refine xc_newa (N := 40) C kc (by decide) (by decide) (by decide) ac_int sh_k96 (by rw [hmc]; exact lb_ rfl) (by rw [hms]; exact lb_ rfl) (dd_X0_init.at 4 rfl) ?_
  show xc_ Z 1 40 9 [some (.ref 95)] [.ref 96, .ref 95] (96, ρ, h)
  refine xc_putR (j := 0) C hin ck_0 (lb_ rfl) lp_RX0_9 rfl (Or.inr ⟨_, rfl⟩) sh_k95 (lb_ rfl) rfl ⟨lb_ rfl, lb_ rfl⟩ (dd_X0_init.at 5 rfl) ?_
  show xc_ Z 1 40 12 [some (.ref 95)] [] (96, (hh_up ρ 95 0 96), h)
  refine xc_aload_n C (dd_X0_init.at 6 rfl) rfl (lb_ rfl) ?_
  refine xc_iconst C (dd_X0_init.at 7 rfl) ic_4 ?_
  refine xc_newa (N := 4) C kc (by decide) (by decide) (by decide) ac_int sh_k97 (by rw [hmc]; exact lb_ rfl) (by rw [hms]; exact lb_ rfl) (dd_X0_init.at 8 rfl) ?_
  show xc_ Z 2 44 16 [some (.ref 95)] [.ref 97, .ref 95] (97, (hh_up ρ 95 0 96), h)
  refine xc_putR (j := 1) C hin ck_0 (lb_ rfl) lp_RX0_15 rfl (Or.inr ⟨_, rfl⟩) sh_k95 (lb_ rfl) rfl ⟨lb_ rfl, lb_ rfl⟩ (dd_X0_init.at 9 rfl) ?_
  show xc_ Z 2 44 19 [some (.ref 95)] [] (97, (hh_up (hh_up ρ 95 0 96) 95 1 97), h)
  refine xc_aload_n C (dd_X0_init.at 10 rfl) rfl (lb_ rfl) ?_
  refine xc_iconst C (dd_X0_init.at 11 rfl) ic_m1 ?_
  refine xc_putI (j := 2) C hin ck_0 (lb_ rfl) lp_RX0_18 rfl rfl sh_k95 (lb_ rfl) rfl (dd_X0_init.at 12 rfl) ?_
  show xc_ Z 2 44 24 [some (.ref 95)] [] (97, (hh_up (hh_up ρ 95 0 96) 95 1 97), (hh_sI h 95 2 (-1)))
  exact xc_return C kc Q (lb_ rfl) (lb_ rfl) (dd_X0_init.at 13 rfl) rfl
theorem sc_X7_init_1 {l : Launch} {G : gt_} {ρ : Nat → Nat → Nat} {h : hh_} : okc_ l G 2 96 1258 mt_X7_init [.ref 1] (1, ρ, h) (97, (hh_up (hh_up (hh_up (hh_up (hh_up (hh_up (hh_up (hh_up (hh_up (hh_up (hh_up (hh_up (hh_up (rm2_ (hh_up (rm2_ (hh_up (rm2_ (hh_up (rm2_ (hh_up (hh_up (hh_up (hh_up (rm2_ (hh_up (rm2_ (hh_up (rm2_ (hh_up (rm2_ (hh_up (hh_up (hh_up (hh_up (hh_up (rm2_ (hh_up (rm2_ (hh_up (hh_up (hh_up (hh_up (hh_up (hh_up (rm2_ (hh_up (hh_up (hh_up (rm2_ ρ 3 6) 2 0 3) 2 1 10) 1 0 2) 12 4) 11 0 12) 11 1 17) 1 1 11) 1 2 18) 1 3 19) 20 0 21) 22 6) 20 1 22) 29 6) 20 2 29) 1 4 20) 36 0 37) 1 5 36) 1 6 38) 40 5) 39 0 40) 46 5) 39 1 46) 52 4) 39 2 52) 57 4) 39 3 57) 39 4 62) 39 5 63) 1 7 39) 65 5) 64 0 65) 71 5) 64 1 71) 77 4) 64 2 77) 82 4) 64 3 82) 64 4 87) 64 5 88) 1 8 64) 89 0 90) 89 1 91) 18 0 89) 92 0 93) 92 1 94) 18 1 92) 95 0 96) 95 1 97) 18 2 95), (hh_sI (hh_sI (hh_sI (hh_sL (hh_sI (hh_sI (hh_sI (hh_sI (hh_sI (hh_sI (hh_sI (hh_sI (hh_sI (hh_sI h 10 0 (-1)) 10 1 (-1)) 10 2 (-1)) 10 3 (-1)) 10 4 (-1)) 10 5 (-1)) 17 0 (-1)) 17 1 (-1)) 17 2 (-1)) 17 3 (-1)) 36 4 1) 89 2 (-1)) 92 2 (-1)) 95 2 (-1))) := by
  refine okc_of pn_RX7 rfl (lb_ rfl) (fun Z _ _ C kc hin hmc hms Q => ?_)
  show xc_ Z 0 0 0 [some (.ref 1), none] [] (1, ρ, h)
  refine xc_aload_n C (dd_X7_init.at 0 rfl) rfl (lb_ rfl) ?_
  refine xc_objInit C (dd_X7_init.at 1 rfl) lo_RX7_1 ⟨lb_ rfl, lb_ rfl⟩ (lb_ rfl) (lb_ rfl) ?_
  refine xc_aload_n C (dd_X7_init.at 2 rfl) rfl (lb_ rfl) ?_
  refine xc_new C ck_4 dy_4 cl_RX7_7 ii_4.1 ii_4.2 sh_k2 (by rw [hmc]; exact lb_ rfl) (by rw [hms]; exact lb_ rfl) (dd_X7_init.at 3 rfl) ?_
  show xc_ Z 1 2 8 [some (.ref 1), none] [.ref 2, .ref 1] (2, ρ, h)
  refine xc_dup C (dd_X7_init.at 4 rfl) rfl ?_
  refine xc_bipush C (dd_X7_init.at 5 rfl) bq_6 ?_
  refine xc_bipush C (dd_X7_init.at 6 rfl) bq_40 ?_
  refine xc_callI C kc sc_X5_init_2 (dd_X7_init.at 7 rfl) rfl rfl ⟨lb_ rfl, lb_ rfl⟩ kk_X5_init kj_X5_init li_RX7_11 (lb_ rfl) rfl rfl (lb_ rfl) (by rw [hmc]; exact lb_ rfl) (by rw [hms]; exact lb_ rfl) ?_
  show xc_ Z 9 254 16 [some (.ref 1), none] [.ref 2, .ref 1] (10, (hh_up (hh_up (rm2_ ρ 3 6) 2 0 3) 2 1 10), (hh_sI (hh_sI (hh_sI (hh_sI (hh_sI (hh_sI h 10 0 (-1)) 10 1 (-1)) 10 2 (-1)) 10 3 (-1)) 10 4 (-1)) 10 5 (-1)))
  refine xc_putR (j := 0) C hin ck_6 (lb_ rfl) lp_RX7_14 rfl (Or.inl ⟨_, rfl⟩) sh_k1 (lb_ rfl) rfl ⟨lb_ rfl, lb_ rfl⟩ (dd_X7_init.at 8 rfl) ?_
  show xc_ Z 9 254 19 [some (.ref 1), none] [] (10, (hh_up (hh_up (hh_up (rm2_ ρ 3 6) 2 0 3) 2 1 10) 1 0 2), (hh_sI (hh_sI (hh_sI (hh_sI (hh_sI (hh_sI h 10 0 (-1)) 10 1 (-1)) 10 2 (-1)) 10 3 (-1)) 10 4 (-1)) 10 5 (-1)))
  refine xc_aload_n C (dd_X7_init.at 9 rfl) rfl (lb_ rfl) ?_
  refine xc_new C ck_4 dy_4 cl_RX7_7 ii_4.1 ii_4.2 sh_k11 (by rw [hmc]; exact lb_ rfl) (by rw [hms]; exact lb_ rfl) (dd_X7_init.at 10 rfl) ?_
  show xc_ Z 10 256 23 [some (.ref 1), none] [.ref 11, .ref 1] (11, (hh_up (hh_up (hh_up (rm2_ ρ 3 6) 2 0 3) 2 1 10) 1 0 2), (hh_sI (hh_sI (hh_sI (hh_sI (hh_sI (hh_sI h 10 0 (-1)) 10 1 (-1)) 10 2 (-1)) 10 3 (-1)) 10 4 (-1)) 10 5 (-1)))
  refine xc_dup C (dd_X7_init.at 11 rfl) rfl ?_
  refine xc_iconst C (dd_X7_init.at 12 rfl) ic_4 ?_
  refine xc_bipush C (dd_X7_init.at 13 rfl) bq_80 ?_
  refine xc_callI C kc sc_X5_init_11 (dd_X7_init.at 14 rfl) rfl rfl ⟨lb_ rfl, lb_ rfl⟩ kk_X5_init kj_X5_init li_RX7_11 (lb_ rfl) rfl rfl (lb_ rfl) (by rw [hmc]; exact lb_ rfl) (by rw [hms]; exact lb_ rfl) ?_
  show xc_ Z 16 584 30 [some (.ref 1), none] [.ref 11, .ref 1] (17, (hh_up (hh_up (rm2_ (hh_up (hh_up (hh_up (rm2_ ρ 3 6) 2 0 3) 2 1 10) 1 0 2) 12 4) 11 0 12) 11 1 17), (hh_sI (hh_sI (hh_sI (hh_sI (hh_sI (hh_sI (hh_sI (hh_sI (hh_sI (hh_sI h 10 0 (-1)) 10 1 (-1)) 10 2 (-1)) 10 3 (-1)) 10 4 (-1)) 10 5 (-1)) 17 0 (-1)) 17 1 (-1)) 17 2 (-1)) 17 3 (-1)))
  refine xc_putR (j := 1) C hin ck_6 (lb_ rfl) lp_RX7_18 rfl (Or.inl ⟨_, rfl⟩) sh_k1 (lb_ rfl) rfl ⟨lb_ rfl, lb_ rfl⟩ (dd_X7_init.at 15 rfl) ?_
  show xc_ Z 16 584 33 [some (.ref 1), none] [] (17, (hh_up (hh_up (hh_up (rm2_ (hh_up (hh_up (hh_up (rm2_ ρ 3 6) 2 0 3) 2 1 10) 1 0 2) 12 4) 11 0 12) 11 1 17) 1 1 11), (hh_sI (hh_sI (hh_sI (hh_sI (hh_sI (hh_sI (hh_sI (hh_sI (hh_sI (hh_sI h 10 0 (-1)) 10 1 (-1)) 10 2 (-1)) 10 3 (-1)) 10 4 (-1)) 10 5 (-1)) 17 0 (-1)) 17 1 (-1)) 17 2 (-1)) 17 3 (-1)))
  refine xc_aload_n C (dd_X7_init.at 16 rfl) rfl (lb_ rfl) ?_
  refine xc_iconst C (dd_X7_init.at 17 rfl) ic_3 ?_
  refine xc_anew (N := 3) C kc (by decide) (by decide) (by decide) cl_RX7_21 sh_k18 (by rw [hmc]; exact lb_ rfl) (by rw [hms]; exact lb_ rfl) (dd_X7_init.at 18 rfl) ?_
  show xc_ Z 17 587 38 [some (.ref 1), none] [.ref 18, .ref 1] (18, (hh_up (hh_up (hh_up (rm2_ (hh_up (hh_up (hh_up (rm2_ ρ 3 6) 2 0 3) 2 1 10) 1 0 2) 12 4) 11 0 12) 11 1 17) 1 1 11), (hh_sI (hh_sI (hh_sI (hh_sI (hh_sI (hh_sI (hh_sI (hh_sI (hh_sI (hh_sI h 10 0 (-1)) 10 1 (-1)) 10 2 (-1)) 10 3 (-1)) 10 4 (-1)) 10 5 (-1)) 17 0 (-1)) 17 1 (-1)) 17 2 (-1)) 17 3 (-1)))
  refine xc_putR (j := 2) C hin ck_6 (lb_ rfl) lp_RX7_23 rfl (Or.inr ⟨_, rfl⟩) sh_k1 (lb_ rfl) rfl ⟨lb_ rfl, lb_ rfl⟩ (dd_X7_init.at 19 rfl) ?_
  show xc_ Z 17 587 41 [some (.ref 1), none] [] (18, (hh_up (hh_up (hh_up (hh_up (rm2_ (hh_up (hh_up (hh_up (rm2_ ρ 3 6) 2 0 3) 2 1 10) 1 0 2) 12 4) 11 0 12) 11 1 17) 1 1 11) 1 2 18), (hh_sI (hh_sI (hh_sI (hh_sI (hh_sI (hh_sI (hh_sI (hh_sI (hh_sI (hh_sI h 10 0 (-1)) 10 1 (-1)) 10 2 (-1)) 10 3 (-1)) 10 4 (-1)) 10 5 (-1)) 17 0 (-1)) 17 1 (-1)) 17 2 (-1)) 17 3 (-1)))
  refine xc_aload_n C (dd_X7_init.at 20 rfl) rfl (lb_ rfl) ?_
  refine xc_new C ck_3 dy_3 cl_RX7_27 ii_3.1 ii_3.2 sh_k19 (by rw [hmc]; exact lb_ rfl) (by rw [hms]; exact lb_ rfl) (dd_X7_init.at 21 rfl) ?_
  show xc_ Z 18 590 45 [some (.ref 1), none] [.ref 19, .ref 1] (19, (hh_up (hh_up (hh_up (hh_up (rm2_ (hh_up (hh_up (hh_up (rm2_ ρ 3 6) 2 0 3) 2 1 10) 1 0 2) 12 4) 11 0 12) 11 1 17) 1 1 11) 1 2 18), (hh_sI (hh_sI (hh_sI (hh_sI (hh_sI (hh_sI (hh_sI (hh_sI (hh_sI (hh_sI h 10 0 (-1)) 10 1 (-1)) 10 2 (-1)) 10 3 (-1)) 10 4 (-1)) 10 5 (-1)) 17 0 (-1)) 17 1 (-1)) 17 2 (-1)) 17 3 (-1)))
  refine xc_dup C (dd_X7_init.at 22 rfl) rfl ?_
  refine xc_callI C kc sc_X4_init_19 (dd_X7_init.at 23 rfl) rfl rfl ⟨lb_ rfl, lb_ rfl⟩ kk_X4_init kj_X4_init li_RX7_29 (lb_ rfl) rfl rfl (lb_ rfl) (by rw [hmc]; exact lb_ rfl) (by rw [hms]; exact lb_ rfl) ?_
  show xc_ Z 18 590 49 [some (.ref 1), none] [.ref 19, .ref 1] (19, (hh_up (hh_up (hh_up (hh_up (rm2_ (hh_up (hh_up (hh_up (rm2_ ρ 3 6) 2 0 3) 2 1 10) 1 0 2) 12 4) 11 0 12) 11 1 17) 1 1 11) 1 2 18), (hh_sI (hh_sI (hh_sI (hh_sI (hh_sI (hh_sI (hh_sI (hh_sI (hh_sI (hh_sI h 10 0 (-1)) 10 1 (-1)) 10 2 (-1)) 10 3 (-1)) 10 4 (-1)) 10 5 (-1)) 17 0 (-1)) 17 1 (-1)) 17 2 (-1)) 17 3 (-1)))
  refine xc_putR (j := 3) C hin ck_6 (lb_ rfl) lp_RX7_30 rfl (Or.inl ⟨_, rfl⟩) sh_k1 (lb_ rfl) rfl ⟨lb_ rfl, lb_ rfl⟩ (dd_X7_init.at 24 rfl) ?_
  show xc_ Z 18 590 52 [some (.ref 1), none] [] (19, (hh_up (hh_up (hh_up (hh_up (hh_up (rm2_ (hh_up (hh_up (hh_up (rm2_ ρ 3 6) 2 0 3) 2 1 10) 1 0 2) 12 4) 11 0 12) 11 1 17) 1 1 11) 1 2 18) 1 3 19), (hh_sI (hh_sI (hh_sI (hh_sI (hh_sI (hh_sI (hh_sI (hh_sI (hh_sI (hh_sI h 10 0 (-1)) 10 1 (-1)) 10 2 (-1)) 10 3 (-1)) 10 4 (-1)) 10 5 (-1)) 17 0 (-1)) 17 1 (-1)) 17 2 (-1)) 17 3 (-1)))
  refine xc_aload_n C (dd_X7_init.at 25 rfl) rfl (lb_ rfl) ?_
  refine xc_new C ck_2 dy_2 cl_RX7_34 ii_2.1 ii_2.2 sh_k20 (by rw [hmc]; exact lb_ rfl) (by rw [hms]; exact lb_ rfl) (dd_X7_init.at 26 rfl) ?_
  show xc_ Z 19 593 56 [some (.ref 1), none] [.ref 20, .ref 1] (20, (hh_up (hh_up (hh_up (hh_up (hh_up (rm2_ (hh_up (hh_up (hh_up (rm2_ ρ 3 6) 2 0 3) 2 1 10) 1 0 2) 12 4) 11 0 12) 11 1 17) 1 1 11) 1 2 18) 1 3 19), (hh_sI (hh_sI (hh_sI (hh_sI (hh_sI (hh_sI (hh_sI (hh_sI (hh_sI (hh_sI h 10 0 (-1)) 10 1 (-1)) 10 2 (-1)) 10 3 (-1)) 10 4 (-1)) 10 5 (-1)) 17 0 (-1)) 17 1 (-1)) 17 2 (-1)) 17 3 (-1)))
  refine xc_dup C (dd_X7_init.at 27 rfl) rfl ?_
  refine xc_callI C kc sc_X3_init_20 (dd_X7_init.at 28 rfl) rfl rfl ⟨lb_ rfl, lb_ rfl⟩ kk_X3_init kj_X3_init li_RX7_36 (lb_ rfl) rfl rfl (lb_ rfl) (by rw [hmc]; exact lb_ rfl) (by rw [hms]; exact lb_ rfl) ?_
  show xc_ Z 34 802 60 [some (.ref 1), none] [.ref 20, .ref 1] (35, (hh_up (rm2_ (hh_up (rm2_ (hh_up (hh_up (hh_up (hh_up (hh_up (hh_up (rm2_ (hh_up (hh_up (hh_up (rm2_ ρ 3 6) 2 0 3) 2 1 10) 1 0 2) 12 4) 11 0 12) 11 1 17) 1 1 11) 1 2 18) 1 3 19) 20 0 21) 22 6) 20 1 22) 29 6) 20 2 29), (hh_sI (hh_sI (hh_sI (hh_sI (hh_sI (hh_sI (hh_sI (hh_sI (hh_sI (hh_sI h 10 0 (-1)) 10 1 (-1)) 10 2 (-1)) 10 3 (-1)) 10 4 (-1)) 10 5 (-1)) 17 0 (-1)) 17 1 (-1)) 17 2 (-1)) 17 3 (-1)))
  refine xc_putR (j := 4) C hin ck_6 (lb_ rfl) lp_RX7_37 rfl (Or.inl ⟨_, rfl⟩) sh_k1 (lb_ rfl) rfl ⟨lb_ rfl, lb_ rfl⟩ (dd_X7_init.at 29 rfl) ?_
  show xc_ Z 34 802 63 [some (.ref 1), none] [] (35, (hh_up (hh_up (rm2_ (hh_up (rm2_ (hh_up (hh_up (hh_up (hh_up (hh_up (hh_up (rm2_ (hh_up (hh_up (hh_up (rm2_ ρ 3 6) 2 0 3) 2 1 10) 1 0 2) 12 4) 11 0 12) 11 1 17) 1 1 11) 1 2 18) 1 3 19) 20 0 21) 22 6) 20 1 22) 29 6) 20 2 29) 1 4 20), (hh_sI (hh_sI (hh_sI (hh_sI (hh_sI (hh_sI (hh_sI (hh_sI (hh_sI (hh_sI h 10 0 (-1)) 10 1 (-1)) 10 2 (-1)) 10 3 (-1)) 10 4 (-1)) 10 5 (-1)) 17 0 (-1)) 17 1 (-1)) 17 2 (-1)) 17 3 (-1)))
  refine xc_aload_n C (dd_X7_init.at 30 rfl) rfl (lb_ rfl) ?_
  refine xc_new C ck_5 dy_5 cl_RX7_41 ii_5.1 ii_5.2 sh_k36 (by rw [hmc]; exact lb_ rfl) (by rw [hms]; exact lb_ rfl) (dd_X7_init.at 31 rfl) ?_
  show xc_ Z 35 807 67 [some (.ref 1), none] [.ref 36, .ref 1] (36, (hh_up (hh_up (rm2_ (hh_up (rm2_ (hh_up (hh_up (hh_up (hh_up (hh_up (hh_up (rm2_ (hh_up (hh_up (hh_up (rm2_ ρ 3 6) 2 0 3) 2 1 10) 1 0 2) 12 4) 11 0 12) 11 1 17) 1 1 11) 1 2 18) 1 3 19) 20 0 21) 22 6) 20 1 22) 29 6) 20 2 29) 1 4 20), (hh_sI (hh_sI (hh_sI (hh_sI (hh_sI (hh_sI (hh_sI (hh_sI (hh_sI (hh_sI h 10 0 (-1)) 10 1 (-1)) 10 2 (-1)) 10 3 (-1)) 10 4 (-1)) 10 5 (-1)) 17 0 (-1)) 17 1 (-1)) 17 2 (-1)) 17 3 (-1)))
  refine xc_dup C (dd_X7_init.at 32 rfl) rfl ?_
  refine xc_callI C kc sc_X6_init_36 (dd_X7_init.at 33 rfl) rfl rfl ⟨lb_ rfl, lb_ rfl⟩ kk_X6_init kj_X6_init li_RX7_43 (lb_ rfl) rfl rfl (lb_ rfl) (by rw [hmc]; exact lb_ rfl) (by rw [hms]; exact lb_ rfl) ?_
  show xc_ Z 36 813 71 [some (.ref 1), none] [.ref 36, .ref 1] (37, (hh_up (hh_up (hh_up (rm2_ (hh_up (rm2_ (hh_up (hh_up (hh_up (hh_up (hh_up (hh_up (rm2_ (hh_up (hh_up (hh_up (rm2_ ρ 3 6) 2 0 3) 2 1 10) 1 0 2) 12 4) 11 0 12) 11 1 17) 1 1 11) 1 2 18) 1 3 19) 20 0 21) 22 6) 20 1 22) 29 6) 20 2 29) 1 4 20) 36 0 37), (hh_sL (hh_sI (hh_sI (hh_sI (hh_sI (hh_sI (hh_sI (hh_sI (hh_sI (hh_sI (hh_sI h 10 0 (-1)) 10 1 (-1)) 10 2 (-1)) 10 3 (-1)) 10 4 (-1)) 10 5 (-1)) 17 0 (-1)) 17 1 (-1)) 17 2 (-1)) 17 3 (-1)) 36 4 1))
  refine xc_putR (j := 5) C hin ck_6 (lb_ rfl) lp_RX7_44 rfl (Or.inl ⟨_, rfl⟩) sh_k1 (lb_ rfl) rfl ⟨lb_ rfl, lb_ rfl⟩ (dd_X7_init.at 34 rfl) ?_
  show xc_ Z 36 813 74 [some (.ref 1), none] [] (37, (hh_up (hh_up (hh_up (hh_up (rm2_ (hh_up (rm2_ (hh_up (hh_up (hh_up (hh_up (hh_up (hh_up (rm2_ (hh_up (hh_up (hh_up (rm2_ ρ 3 6) 2 0 3) 2 1 10) 1 0 2) 12 4) 11 0 12) 11 1 17) 1 1 11) 1 2 18) 1 3 19) 20 0 21) 22 6) 20 1 22) 29 6) 20 2 29) 1 4 20) 36 0 37) 1 5 36), (hh_sL (hh_sI (hh_sI (hh_sI (hh_sI (hh_sI (hh_sI (hh_sI (hh_sI (hh_sI (hh_sI h 10 0 (-1)) 10 1 (-1)) 10 2 (-1)) 10 3 (-1)) 10 4 (-1)) 10 5 (-1)) 17 0 (-1)) 17 1 (-1)) 17 2 (-1)) 17 3 (-1)) 36 4 1))
  refine xc_aload_n C (dd_X7_init.at 35 rfl) rfl (lb_ rfl) ?_
  refine xc_iconst C (dd_X7_init.at 36 rfl) ic_4 ?_
  refine xc_newa (N := 4) C kc (by decide) (by decide) (by decide) ac_int sh_k38 (by rw [hmc]; exact lb_ rfl) (by rw [hms]; exact lb_ rfl) (dd_X7_init.at 37 rfl) ?_
  show xc_ Z 37 817 78 [some (.ref 1), none] [.ref 38, .ref 1] (38, (hh_up (hh_up (hh_up (hh_up (rm2_ (hh_up (rm2_ (hh_up (hh_up (hh_up (hh_up (hh_up (hh_up (rm2_ (hh_up (hh_up (hh_up (rm2_ ρ 3 6) 2 0 3) 2 1 10) 1 0 2) 12 4) 11 0 12) 11 1 17) 1 1 11) 1 2 18) 1 3 19) 20 0 21) 22 6) 20 1 22) 29 6) 20 2 29) 1 4 20) 36 0 37) 1 5 36), (hh_sL (hh_sI (hh_sI (hh_sI (hh_sI (hh_sI (hh_sI (hh_sI (hh_sI (hh_sI (hh_sI h 10 0 (-1)) 10 1 (-1)) 10 2 (-1)) 10 3 (-1)) 10 4 (-1)) 10 5 (-1)) 17 0 (-1)) 17 1 (-1)) 17 2 (-1)) 17 3 (-1)) 36 4 1))
  refine xc_putR (j := 6) C hin ck_6 (lb_ rfl) lp_RX7_48 rfl (Or.inr ⟨_, rfl⟩) sh_k1 (lb_ rfl) rfl ⟨lb_ rfl, lb_ rfl⟩ (dd_X7_init.at 38 rfl) ?_
  show xc_ Z 37 817 81 [some (.ref 1), none] [] (38, (hh_up (hh_up (hh_up (hh_up (hh_up (rm2_ (hh_up (rm2_ (hh_up (hh_up (hh_up (hh_up (hh_up (hh_up (rm2_ (hh_up (hh_up (hh_up (rm2_ ρ 3 6) 2 0 3) 2 1 10) 1 0 2) 12 4) 11 0 12) 11 1 17) 1 1 11) 1 2 18) 1 3 19) 20 0 21) 22 6) 20 1 22) 29 6) 20 2 29) 1 4 20) 36 0 37) 1 5 36) 1 6 38), (hh_sL (hh_sI (hh_sI (hh_sI (hh_sI (hh_sI (hh_sI (hh_sI (hh_sI (hh_sI (hh_sI h 10 0 (-1)) 10 1 (-1)) 10 2 (-1)) 10 3 (-1)) 10 4 (-1)) 10 5 (-1)) 17 0 (-1)) 17 1 (-1)) 17 2 (-1)) 17 3 (-1)) 36 4 1))
  refine xc_aload_n C (dd_X7_init.at 39 rfl) rfl (lb_ rfl) ?_
  refine xc_new C ck_1 dy_1 cl_RX7_52 ii_1.1 ii_1.2 sh_k39 (by rw [hmc]; exact lb_ rfl) (by rw [hms]; exact lb_ rfl) (dd_X7_init.at 40 rfl) ?_
  show xc_ Z 38 824 85 [some (.ref 1), none] [.ref 39, .ref 1] (39, (hh_up (hh_up (hh_up (hh_up (hh_up (rm2_ (hh_up (rm2_ (hh_up (hh_up (hh_up (hh_up (hh_up (hh_up (rm2_ (hh_up (hh_up (hh_up (rm2_ ρ 3 6) 2 0 3) 2 1 10) 1 0 2) 12 4) 11 0 12) 11 1 17) 1 1 11) 1 2 18) 1 3 19) 20 0 21) 22 6) 20 1 22) 29 6) 20 2 29) 1 4 20) 36 0 37) 1 5 36) 1 6 38), (hh_sL (hh_sI (hh_sI (hh_sI (hh_sI (hh_sI (hh_sI (hh_sI (hh_sI (hh_sI (hh_sI h 10 0 (-1)) 10 1 (-1)) 10 2 (-1)) 10 3 (-1)) 10 4 (-1)) 10 5 (-1)) 17 0 (-1)) 17 1 (-1)) 17 2 (-1)) 17 3 (-1)) 36 4 1))
  refine xc_dup C (dd_X7_init.at 41 rfl) rfl ?_
  refine xc_callI C kc sc_X2_init_39 (dd_X7_init.at 42 rfl) rfl rfl ⟨lb_ rfl, lb_ rfl⟩ kk_X2_init kj_X2_init li_RX7_54 (lb_ rfl) rfl rfl (lb_ rfl) (by rw [hmc]; exact lb_ rfl) (by rw [hms]; exact lb_ rfl) ?_
  show xc_ Z 62 967 89 [some (.ref 1), none] [.ref 39, .ref 1] (63, (hh_up (hh_up (hh_up (rm2_ (hh_up (rm2_ (hh_up (rm2_ (hh_up (rm2_ (hh_up (hh_up (hh_up (hh_up (hh_up (rm2_ (hh_up (rm2_ (hh_up (hh_up (hh_up (hh_up (hh_up (hh_up (rm2_ (hh_up (hh_up (hh_up (rm2_ ρ 3 6) 2 0 3) 2 1 10) 1 0 2) 12 4) 11 0 12) 11 1 17) 1 1 11) 1 2 18) 1 3 19) 20 0 21) 22 6) 20 1 22) 29 6) 20 2 29) 1 4 20) 36 0 37) 1 5 36) 1 6 38) 40 5) 39 0 40) 46 5) 39 1 46) 52 4) 39 2 52) 57 4) 39 3 57) 39 4 62) 39 5 63), (hh_sL (hh_sI (hh_sI (hh_sI (hh_sI (hh_sI (hh_sI (hh_sI (hh_sI (hh_sI (hh_sI h 10 0 (-1)) 10 1 (-1)) 10 2 (-1)) 10 3 (-1)) 10 4 (-1)) 10 5 (-1)) 17 0 (-1)) 17 1 (-1)) 17 2 (-1)) 17 3 (-1)) 36 4 1))
  refine xc_putR (j := 7) C hin ck_6 (lb_ rfl) lp_RX7_55 rfl (Or.inl ⟨_, rfl⟩) sh_k1 (lb_ rfl) rfl ⟨lb_ rfl, lb_ rfl⟩ (dd_X7_init.at 43 rfl) ?_
  show xc_ Z 62 967 92 [some (.ref 1), none] [] (63, (hh_up (hh_up (hh_up (hh_up (rm2_ (hh_up (rm2_ (hh_up (rm2_ (hh_up (rm2_ (hh_up (hh_up (hh_up (hh_up (hh_up (rm2_ (hh_up (rm2_ (hh_up (hh_up (hh_up (hh_up (hh_up (hh_up (rm2_ (hh_up (hh_up (hh_up (rm2_ ρ 3 6) 2 0 3) 2 1 10) 1 0 2) 12 4) 11 0 12) 11 1 17) 1 1 11) 1 2 18) 1 3 19) 20 0 21) 22 6) 20 1 22) 29 6) 20 2 29) 1 4 20) 36 0 37) 1 5 36) 1 6 38) 40 5) 39 0 40) 46 5) 39 1 46) 52 4) 39 2 52) 57 4) 39 3 57) 39 4 62) 39 5 63) 1 7 39), (hh_sL (hh_sI (hh_sI (hh_sI (hh_sI (hh_sI (hh_sI (hh_sI (hh_sI (hh_sI (hh_sI h 10 0 (-1)) 10 1 (-1)) 10 2 (-1)) 10 3 (-1)) 10 4 (-1)) 10 5 (-1)) 17 0 (-1)) 17 1 (-1)) 17 2 (-1)) 17 3 (-1)) 36 4 1))
  refine xc_aload_n C (dd_X7_init.at 44 rfl) rfl (lb_ rfl) ?_
  refine xc_new C ck_1 dy_1 cl_RX7_52 ii_1.1 ii_1.2 sh_k64 (by rw [hmc]; exact lb_ rfl) (by rw [hms]; exact lb_ rfl) (dd_X7_init.at 45 rfl) ?_
  show xc_ Z 63 974 96 [some (.ref 1), none] [.ref 64, .ref 1] (64, (hh_up (hh_up (hh_up (hh_up (rm2_ (hh_up (rm2_ (hh_up (rm2_ (hh_up (rm2_ (hh_up (hh_up (hh_up (hh_up (hh_up (rm2_ (hh_up (rm2_ (hh_up (hh_up (hh_up (hh_up (hh_up (hh_up (rm2_ (hh_up (hh_up (hh_up (rm2_ ρ 3 6) 2 0 3) 2 1 10) 1 0 2) 12 4) 11 0 12) 11 1 17) 1 1 11) 1 2 18) 1 3 19) 20 0 21) 22 6) 20 1 22) 29 6) 20 2 29) 1 4 20) 36 0 37) 1 5 36) 1 6 38) 40 5) 39 0 40) 46 5) 39 1 46) 52 4) 39 2 52) 57 4) 39 3 57) 39 4 62) 39 5 63) 1 7 39), (hh_sL (hh_sI (hh_sI (hh_sI (hh_sI (hh_sI (hh_sI (hh_sI (hh_sI (hh_sI (hh_sI h 10 0 (-1)) 10 1 (-1)) 10 2 (-1)) 10 3 (-1)) 10 4 (-1)) 10 5 (-1)) 17 0 (-1)) 17 1 (-1)) 17 2 (-1)) 17 3 (-1)) 36 4 1))
  refine xc_dup C (dd_X7_init.at 46 rfl) rfl ?_
  refine xc_callI C kc sc_X2_init_64 (dd_X7_init.at 47 rfl) rfl rfl ⟨lb_ rfl, lb_ rfl⟩ kk_X2_init kj_X2_init li_RX7_54 (lb_ rfl) rfl rfl (lb_ rfl) (by rw [hmc]; exact lb_ rfl) (by rw [hms]; exact lb_ rfl) ?_
  show xc_ Z 87 1117 100 [some (.ref 1), none] [.ref 64, .ref 1] (88, (hh_up (hh_up (hh_up (rm2_ (hh_up (rm2_ (hh_up (rm2_ (hh_up (rm2_ (hh_up (hh_up (hh_up (hh_up (rm2_ (hh_up (rm2_ (hh_up (rm2_ (hh_up (rm2_ (hh_up (hh_up (hh_up (hh_up (hh_up (rm2_ (hh_up (rm2_ (hh_up (hh_up (hh_up (hh_up (hh_up (hh_up (rm2_ (hh_up (hh_up (hh_up (rm2_ ρ 3 6) 2 0 3) 2 1 10) 1 0 2) 12 4) 11 0 12) 11 1 17) 1 1 11) 1 2 18) 1 3 19) 20 0 21) 22 6) 20 1 22) 29 6) 20 2 29) 1 4 20) 36 0 37) 1 5 36) 1 6 38) 40 5) 39 0 40) 46 5) 39 1 46) 52 4) 39 2 52) 57 4) 39 3 57) 39 4 62) 39 5 63) 1 7 39) 65 5) 64 0 65) 71 5) 64 1 71) 77 4) 64 2 77) 82 4) 64 3 82) 64 4 87) 64 5 88), (hh_sL (hh_sI (hh_sI (hh_sI (hh_sI (hh_sI (hh_sI (hh_sI (hh_sI (hh_sI (hh_sI h 10 0 (-1)) 10 1 (-1)) 10 2 (-1)) 10 3 (-1)) 10 4 (-1)) 10 5 (-1)) 17 0 (-1)) 17 1 (-1)) 17 2 (-1)) 17 3 (-1)) 36 4 1))
  refine xc_putR (j := 8) C hin ck_6 (lb_ rfl) lp_RX7_59 rfl (Or.inl ⟨_, rfl⟩) sh_k1 (lb_ rfl) rfl ⟨lb_ rfl, lb_ rfl⟩ (dd_X7_init.at 48 rfl) ?_
  show xc_ Z 87 1117 103 [some (.ref 1), none] [] (88, (hh_up (hh_up (hh_up (hh_up (rm2_ (hh_up (rm2_ (hh_up (rm2_ (hh_up (rm2_ (hh_up (hh_up (hh_up (hh_up (rm2_ (hh_up (rm2_ (hh_up (rm2_ (hh_up (rm2_ (hh_up (hh_up (hh_up (hh_up (hh_up (rm2_ (hh_up (rm2_ (hh_up (hh_up (hh_up (hh_up (hh_up (hh_up (rm2_ (hh_up (hh_up (hh_up (rm2_ ρ 3 6) 2 0 3) 2 1 10) 1 0 2) 12 4) 11 0 12) 11 1 17) 1 1 11) 1 2 18) 1 3 19) 20 0 21) 22 6) 20 1 22) 29 6) 20 2 29) 1 4 20) 36 0 37) 1 5 36) 1 6 38) 40 5) 39 0 40) 46 5) 39 1 46) 52 4) 39 2 52) 57 4) 39 3 57) 39 4 62) 39 5 63) 1 7 39) 65 5) 64 0 65) 71 5) 64 1 71) 77 4) 64 2 77) 82 4) 64 3 82) 64 4 87) 64 5 88) 1 8 64), (hh_sL (hh_sI (hh_sI (hh_sI (hh_sI (hh_sI (hh_sI (hh_sI (hh_sI (hh_sI (hh_sI h 10 0 (-1)) 10 1 (-1)) 10 2 (-1)) 10 3 (-1)) 10 4 (-1)) 10 5 (-1)) 17 0 (-1)) 17 1 (-1)) 17 2 (-1)) 17 3 (-1)) 36 4 1))
  refine xc_iconst C (dd_X7_init.at 49 rfl) ic_0 ?_
  refine xc_istore_n (lv' := [_, _]) C (dd_X7_init.at 50 rfl) (lb_ rfl) rfl ?_
  refine xc_iload_n C (dd_X7_init.at 51 rfl) rfl ?_
  refine xc_iconst C (dd_X7_init.at 52 rfl) ic_3 ?_
  refine xc_icmp_ge_f (tgt := 129) C (dd_X7_init.at 53 rfl) (by decide) (by decide) ?_
  refine xc_aload_n C (dd_X7_init.at 54 rfl) rfl (lb_ rfl) ?_
  refine xc_getR (j := 2) (r := 18) C ck_6 (lb_ rfl) lg_RX7_23 sh_k1 (lb_ rfl) rfl (lb_ rfl) rfl (by rw [hmc]; exact lb_ rfl) (by rw [hms]; exact lb_ rfl) (dd_X7_init.at 55 rfl) ?_
  refine xc_iload_n C (dd_X7_init.at 56 rfl) rfl ?_
  refine xc_new C ck_0 dy_0 cl_RX7_21 ii_0.1 ii_0.2 sh_k89 (by rw [hmc]; exact lb_ rfl) (by rw [hms]; exact lb_ rfl) (dd_X7_init.at 57 rfl) ?_
  show xc_ Z 88 1120 118 [some (.ref 1), some (.int 0)] [.ref 89, .int 0, .ref 18] (89, (hh_up (hh_up (hh_up (hh_up (rm2_ (hh_up (rm2_ (hh_up (rm2_ (hh_up (rm2_ (hh_up (hh_up (hh_up (hh_up (rm2_ (hh_up (rm2_ (hh_up (rm2_ (hh_up (rm2_ (hh_up (hh_up (hh_up (hh_up (hh_up (rm2_ (hh_up (rm2_ (hh_up (hh_up (hh_up (hh_up (hh_up (hh_up (rm2_ (hh_up (hh_up (hh_up (rm2_ ρ 3 6) 2 0 3) 2 1 10) 1 0 2) 12 4) 11 0 12) 11 1 17) 1 1 11) 1 2 18) 1 3 19) 20 0 21) 22 6) 20 1 22) 29 6) 20 2 29) 1 4 20) 36 0 37) 1 5 36) 1 6 38) 40 5) 39 0 40) 46 5) 39 1 46) 52 4) 39 2 52) 57 4) 39 3 57) 39 4 62) 39 5 63) 1 7 39) 65 5) 64 0 65) 71 5) 64 1 71) 77 4) 64 2 77) 82 4) 64 3 82) 64 4 87) 64 5 88) 1 8 64), (hh_sL (hh_sI (hh_sI (hh_sI (hh_sI (hh_sI (hh_sI (hh_sI (hh_sI (hh_sI (hh_sI h 10 0 (-1)) 10 1 (-1)) 10 2 (-1)) 10 3 (-1)) 10 4 (-1)) 10 5 (-1)) 17 0 (-1)) 17 1 (-1)) 17 2 (-1)) 17 3 (-1)) 36 4 1))
  refine xc_dup C (dd_X7_init.at 58 rfl) rfl ?_
  refine xc_callI C kc sc_X0_init_89 (dd_X7_init.at 59 rfl) rfl rfl ⟨lb_ rfl, lb_ rfl⟩ kk_X0_init kj_X0_init li_RX7_62 (lb_ rfl) rfl rfl (lb_ rfl) (by rw [hmc]; exact lb_ rfl) (by rw [hms]; exact lb_ rfl) ?_
  show xc_ Z 90 1164 122 [some (.ref 1), some (.int 0)] [.ref 89, .int 0, .ref 18] (91, (hh_up (hh_up (hh_up (hh_up (hh_up (hh_up (rm2_ (hh_up (rm2_ (hh_up (rm2_ (hh_up (rm2_ (hh_up (hh_up (hh_up (hh_up (rm2_ (hh_up (rm2_ (hh_up (rm2_ (hh_up (rm2_ (hh_up (hh_up (hh_up (hh_up (hh_up (rm2_ (hh_up (rm2_ (hh_up (hh_up (hh_up (hh_up (hh_up (hh_up (rm2_ (hh_up (hh_up (hh_up (rm2_ ρ 3 6) 2 0 3) 2 1 10) 1 0 2) 12 4) 11 0 12) 11 1 17) 1 1 11) 1 2 18) 1 3 19) 20 0 21) 22 6) 20 1 22) 29 6) 20 2 29) 1 4 20) 36 0 37) 1 5 36) 1 6 38) 40 5) 39 0 40) 46 5) 39 1 46) 52 4) 39 2 52) 57 4) 39 3 57) 39 4 62) 39 5 63) 1 7 39) 65 5) 64 0 65) 71 5) 64 1 71) 77 4) 64 2 77) 82 4) 64 3 82) 64 4 87) 64 5 88) 1 8 64) 89 0 90) 89 1 91), (hh_sI (hh_sL (hh_sI (hh_sI (hh_sI (hh_sI (hh_sI (hh_sI (hh_sI (hh_sI (hh_sI (hh_sI h 10 0 (-1)) 10 1 (-1)) 10 2 (-1)) 10 3 (-1)) 10 4 (-1)) 10 5 (-1)) 17 0 (-1)) 17 1 (-1)) 17 2 (-1)) 17 3 (-1)) 36 4 1) 89 2 (-1)))
  refine xc_aastore (i0 := 0) C kc (dd_X7_init.at 60 rfl) sh_k18 (lb_ rfl) sh_k89 (lb_ rfl) (bi_ok (i := 0) (n := 3) rfl) (by decide) ?_
  show xc_ Z 90 1164 123 [some (.ref 1), some (.int 0)] [] (91, (hh_up (hh_up (hh_up (hh_up (hh_up (hh_up (hh_up (rm2_ (hh_up (rm2_ (hh_up (rm2_ (hh_up (rm2_ (hh_up (hh_up (hh_up (hh_up (rm2_ (hh_up (rm2_ (hh_up (rm2_ (hh_up (rm2_ (hh_up (hh_up (hh_up (hh_up (hh_up (rm2_ (hh_up (rm2_ (hh_up (hh_up (hh_up (hh_up (hh_up (hh_up (rm2_ (hh_up (hh_up (hh_up (rm2_ ρ 3 6) 2 0 3) 2 1 10) 1 0 2) 12 4) 11 0 12) 11 1 17) 1 1 11) 1 2 18) 1 3 19) 20 0 21) 22 6) 20 1 22) 29 6) 20 2 29) 1 4 20) 36 0 37) 1 5 36) 1 6 38) 40 5) 39 0 40) 46 5) 39 1 46) 52 4) 39 2 52) 57 4) 39 3 57) 39 4 62) 39 5 63) 1 7 39) 65 5) 64 0 65) 71 5) 64 1 71) 77 4) 64 2 77) 82 4) 64 3 82) 64 4 87) 64 5 88) 1 8 64) 89 0 90) 89 1 91) 18 0 89), (hh_sI (hh_sL (hh_sI (hh_sI (hh_sI (hh_sI (hh_sI (hh_sI (hh_sI (hh_sI (hh_sI (hh_sI h 10 0 (-1)) 10 1 (-1)) 10 2 (-1)) 10 3 (-1)) 10 4 (-1)) 10 5 (-1)) 17 0 (-1)) 17 1 (-1)) 17 2 (-1)) 17 3 (-1)) 36 4 1) 89 2 (-1)))
  refine xc_iinc (v := 1) (lv' := [_, _]) C (dd_X7_init.at 61 rfl) (lb_ rfl) rfl (by rw [ic_1]; decide) rfl ?_
  refine xc_goto (tgt := 105) C (dd_X7_init.at 62 rfl) (by decide) ?_
  refine xc_iload_n C (dd_X7_init.at 51 rfl) rfl ?_
  refine xc_iconst C (dd_X7_init.at 52 rfl) ic_3 ?_
  refine xc_icmp_ge_f (tgt := 129) C (dd_X7_init.at 53 rfl) (by decide) (by decide) ?_
  refine xc_aload_n C (dd_X7_init.at 54 rfl) rfl (lb_ rfl) ?_
  refine xc_getR (j := 2) (r := 18) C ck_6 (lb_ rfl) lg_RX7_23 sh_k1 (lb_ rfl) rfl (lb_ rfl) rfl (by rw [hmc]; exact lb_ rfl) (by rw [hms]; exact lb_ rfl) (dd_X7_init.at 55 rfl) ?_
  refine xc_iload_n C (dd_X7_init.at 56 rfl) rfl ?_
  refine xc_new C ck_0 dy_0 cl_RX7_21 ii_0.1 ii_0.2 sh_k92 (by rw [hmc]; exact lb_ rfl) (by rw [hms]; exact lb_ rfl) (dd_X7_init.at 57 rfl) ?_
  show xc_ Z 91 1167 118 [some (.ref 1), some (.int 1)] [.ref 92, .int 1, .ref 18] (92, (hh_up (hh_up (hh_up (hh_up (hh_up (hh_up (hh_up (rm2_ (hh_up (rm2_ (hh_up (rm2_ (hh_up (rm2_ (hh_up (hh_up (hh_up (hh_up (rm2_ (hh_up (rm2_ (hh_up (rm2_ (hh_up (rm2_ (hh_up (hh_up (hh_up (hh_up (hh_up (rm2_ (hh_up (rm2_ (hh_up (hh_up (hh_up (hh_up (hh_up (hh_up (rm2_ (hh_up (hh_up (hh_up (rm2_ ρ 3 6) 2 0 3) 2 1 10) 1 0 2) 12 4) 11 0 12) 11 1 17) 1 1 11) 1 2 18) 1 3 19) 20 0 21) 22 6) 20 1 22) 29 6) 20 2 29) 1 4 20) 36 0 37) 1 5 36) 1 6 38) 40 5) 39 0 40) 46 5) 39 1 46) 52 4) 39 2 52) 57 4) 39 3 57) 39 4 62) 39 5 63) 1 7 39) 65 5) 64 0 65) 71 5) 64 1 71) 77 4) 64 2 77) 82 4) 64 3 82) 64 4 87) 64 5 88) 1 8 64) 89 0 90) 89 1 91) 18 0 89), (hh_sI (hh_sL (hh_sI (hh_sI (hh_sI (hh_sI (hh_sI (hh_sI (hh_sI (hh_sI (hh_sI (hh_sI h 10 0 (-1)) 10 1 (-1)) 10 2 (-1)) 10 3 (-1)) 10 4 (-1)) 10 5 (-1)) 17 0 (-1)) 17 1 (-1)) 17 2 (-1)) 17 3 (-1)) 36 4 1) 89 2 (-1)))
  refine xc_dup C (dd_X7_init.at 58 rfl) rfl ?_
  refine xc_callI C kc sc_X0_init_92 (dd_X7_init.at 59 rfl) rfl rfl ⟨lb_ rfl, lb_ rfl⟩ kk_X0_init kj_X0_init li_RX7_62 (lb_ rfl) rfl rfl (lb_ rfl) (by rw [hmc]; exact lb_ rfl) (by rw [hms]; exact lb_ rfl) ?_
  show xc_ Z 93 1211 122 [some (.ref 1), some (.int 1)] [.ref 92, .int 1, .ref 18] (94, (hh_up (hh_up (hh_up (hh_up (hh_up (hh_up (hh_up (hh_up (hh_up (rm2_ (hh_up (rm2_ (hh_up (rm2_ (hh_up (rm2_ (hh_up (hh_up (hh_up (hh_up (rm2_ (hh_up (rm2_ (hh_up (rm2_ (hh_up (rm2_ (hh_up (hh_up (hh_up (hh_up (hh_up (rm2_ (hh_up (rm2_ (hh_up (hh_up (hh_up (hh_up (hh_up (hh_up (rm2_ (hh_up (hh_up (hh_up (rm2_ ρ 3 6) 2 0 3) 2 1 10) 1 0 2) 12 4) 11 0 12) 11 1 17) 1 1 11) 1 2 18) 1 3 19) 20 0 21) 22 6) 20 1 22) 29 6) 20 2 29) 1 4 20) 36 0 37) 1 5 36) 1 6 38) 40 5) 39 0 40) 46 5) 39 1 46) 52 4) 39 2 52) 57 4) 39 3 57) 39 4 62) 39 5 63) 1 7 39) 65 5) 64 0 65) 71 5) 64 1 71) 77 4) 64 2 77) 82 4) 64 3 82) 64 4 87) 64 5 88) 1 8 64) 89 0 90) 89 1 91) 18 0 89) 92 0 93) 92 1 94), (hh_sI (hh_sI (hh_sL (hh_sI (hh_sI (hh_sI (hh_sI (hh_sI (hh_sI (hh_sI (hh_sI (hh_sI (hh_sI h 10 0 (-1)) 10 1 (-1)) 10 2 (-1)) 10 3 (-1)) 10 4 (-1)) 10 5 (-1)) 17 0 (-1)) 17 1 (-1)) 17 2 (-1)) 17 3 (-1)) 36 4 1) 89 2 (-1)) 92 2 (-1)))
  refine xc_aastore (i0 := 1) C kc (dd_X7_init.at 60 rfl) sh_k18 (lb_ rfl) sh_k92 (lb_ rfl) (bi_ok (i := 1) (n := 3) rfl) (by decide) ?_
  show xc_ Z 93 1211 123 [some (.ref 1), some (.int 1)] [] (94, (hh_up (hh_up (hh_up (hh_up (hh_up (hh_up (hh_up (hh_up (hh_up (hh_up (rm2_ (hh_up (rm2_ (hh_up (rm2_ (hh_up (rm2_ (hh_up (hh_up (hh_up (hh_up (rm2_ (hh_up (rm2_ (hh_up (rm2_ (hh_up (rm2_ (hh_up (hh_up (hh_up (hh_up (hh_up (rm2_ (hh_up (rm2_ (hh_up (hh_up (hh_up (hh_up (hh_up (hh_up (rm2_ (hh_up (hh_up (hh_up (rm2_ ρ 3 6) 2 0 3) 2 1 10) 1 0 2) 12 4) 11 0 12) 11 1 17) 1 1 11) 1 2 18) 1 3 19) 20 0 21) 22 6) 20 1 22) 29 6) 20 2 29) 1 4 20) 36 0 37) 1 5 36) 1 6 38) 40 5) 39 0 40) 46 5) 39 1 46) 52 4) 39 2 52) 57 4) 39 3 57) 39 4 62) 39 5 63) 1 7 39) 65 5) 64 0 65) 71 5) 64 1 71) 77 4) 64 2 77) 82 4) 64 3 82) 64 4 87) 64 5 88) 1 8 64) 89 0 90) 89 1 91) 18 0 89) 92 0 93) 92 1 94) 18 1 92), (hh_sI (hh_sI (hh_sL (hh_sI (hh_sI (hh_sI (hh_sI (hh_sI (hh_sI (hh_sI (hh_sI (hh_sI (hh_sI h 10 0 (-1)) 10 1 (-1)) 10 2 (-1)) 10 3 (-1)) 10 4 (-1)) 10 5 (-1)) 17 0 (-1)) 17 1 (-1)) 17 2 (-1)) 17 3 (-1)) 36 4 1) 89 2 (-1)) 92 2 (-1)))
  refine xc_iinc (v := 2) (lv' := [_, _]) C (dd_X7_init.at 61 rfl) (lb_ rfl) rfl (by rw [ic_1]; decide) rfl ?_
  refine xc_goto (tgt := 105) C (dd_X7_init.at 62 rfl) (by decide) ?_
  refine xc_iload_n C (dd_X7_init.at 51 rfl) rfl ?_
  refine xc_iconst C (dd_X7_init.at 52 rfl) ic_3 ?_
  refine xc_icmp_ge_f (tgt := 129) C (dd_X7_init.at 53 rfl) (by decide) (by decide) ?_
  refine xc_aload_n C (dd_X7_init.at 54 rfl) rfl (lb_ rfl) ?_
  refine xc_getR (j := 2) (r := 18) C ck_6 (lb_ rfl) lg_RX7_23 sh_k1 (lb_ rfl) rfl (lb_ rfl) rfl (by rw [hmc]; exact lb_ rfl) (by rw [hms]; exact lb_ rfl) (dd_X7_init.at 55 rfl) ?_
  refine xc_iload_n C (dd_X7_init.at 56 rfl) rfl ?_
  refine xc_new C ck_0 dy_0 cl_RX7_21 ii_0.1 ii_0.2 sh_k95 (by rw [hmc]; exact lb_ rfl) (by rw [hms]; exact lb_ rfl) (dd_X7_init.at 57 rfl) ?_
  show xc_ Z 94 1214 118 [some (.ref 1), some (.int 2)] [.ref 95, .int 2, .ref 18] (95, (hh_up (hh_up (hh_up (hh_up (hh_up (hh_up (hh_up (hh_up (hh_up (hh_up (rm2_ (hh_up (rm2_ (hh_up (rm2_ (hh_up (rm2_ (hh_up (hh_up (hh_up (hh_up (rm2_ (hh_up (rm2_ (hh_up (rm2_ (hh_up (rm2_ (hh_up (hh_up (hh_up (hh_up (hh_up (rm2_ (hh_up (rm2_ (hh_up (hh_up (hh_up (hh_up (hh_up (hh_up (rm2_ (hh_up (hh_up (hh_up (rm2_ ρ 3 6) 2 0 3) 2 1 10) 1 0 2) 12 4) 11 0 12) 11 1 17) 1 1 11) 1 2 18) 1 3 19) 20 0 21) 22 6) 20 1 22) 29 6) 20 2 29) 1 4 20) 36 0 37) 1 5 36) 1 6 38) 40 5) 39 0 40) 46 5) 39 1 46) 52 4) 39 2 52) 57 4) 39 3 57) 39 4 62) 39 5 63) 1 7 39) 65 5) 64 0 65) 71 5) 64 1 71) 77 4) 64 2 77) 82 4) 64 3 82) 64 4 87) 64 5 88) 1 8 64) 89 0 90) 89 1 91) 18 0 89) 92 0 93) 92 1 94) 18 1 92), (hh_sI (hh_sI (hh_sL (hh_sI (hh_sI (hh_sI (hh_sI (hh_sI (hh_sI (hh_sI (hh_sI (hh_sI (hh_sI h 10 0 (-1)) 10 1 (-1)) 10 2 (-1)) 10 3 (-1)) 10 4 (-1)) 10 5 (-1)) 17 0 (-1)) 17 1 (-1)) 17 2 (-1)) 17 3 (-1)) 36 4 1) 89 2 (-1)) 92 2 (-1)))
  refine xc_dup C (dd_X7_init.at 58 rfl) rfl ?_
  refine xc_callI C kc sc_X0_init_95 (dd_X7_init.at 59 rfl) rfl rfl ⟨lb_ rfl, lb_ rfl⟩ kk_X0_init kj_X0_init li_RX7_62 (lb_ rfl) rfl rfl (lb_ rfl) (by rw [hmc]; exact lb_ rfl) (by rw [hms]; exact lb_ rfl) ?_
  show xc_ Z 96 1258 122 [some (.ref 1), some (.int 2)] [.ref 95, .int 2, .ref 18] (97, (hh_up (hh_up (hh_up (hh_up (hh_up (hh_up (hh_up (hh_up (hh_up (hh_up (hh_up (hh_up (rm2_ (hh_up (rm2_ (hh_up (rm2_ (hh_up (rm2_ (hh_up (hh_up (hh_up (hh_up (rm2_ (hh_up (rm2_ (hh_up (rm2_ (hh_up (rm2_ (hh_up (hh_up (hh_up (hh_up (hh_up (rm2_ (hh_up (rm2_ (hh_up (hh_up (hh_up (hh_up (hh_up (hh_up (rm2_ (hh_up (hh_up (hh_up (rm2_ ρ 3 6) 2 0 3) 2 1 10) 1 0 2) 12 4) 11 0 12) 11 1 17) 1 1 11) 1 2 18) 1 3 19) 20 0 21) 22 6) 20 1 22) 29 6) 20 2 29) 1 4 20) 36 0 37) 1 5 36) 1 6 38) 40 5) 39 0 40) 46 5) 39 1 46) 52 4) 39 2 52) 57 4) 39 3 57) 39 4 62) 39 5 63) 1 7 39) 65 5) 64 0 65) 71 5) 64 1 71) 77 4) 64 2 77) 82 4) 64 3 82) 64 4 87) 64 5 88) 1 8 64) 89 0 90) 89 1 91) 18 0 89) 92 0 93) 92 1 94) 18 1 92) 95 0 96) 95 1 97), (hh_sI (hh_sI (hh_sI (hh_sL (hh_sI (hh_sI (hh_sI (hh_sI (hh_sI (hh_sI (hh_sI (hh_sI (hh_sI (hh_sI h 10 0 (-1)) 10 1 (-1)) 10 2 (-1)) 10 3 (-1)) 10 4 (-1)) 10 5 (-1)) 17 0 (-1)) 17 1 (-1)) 17 2 (-1)) 17 3 (-1)) 36 4 1) 89 2 (-1)) 92 2 (-1)) 95 2 (-1)))
  refine xc_aastore (i0 := 2) C kc (dd_X7_init.at 60 rfl) sh_k18 (lb_ rfl) sh_k95 (lb_ rfl) (bi_ok (i := 2) (n := 3) rfl) (by decide) ?_
  show xc_ Z 96 1258 123 [some (.ref 1), some (.int 2)] [] (97, (hh_up (hh_up (hh_up (hh_up (hh_up (hh_up (hh_up (hh_up (hh_up (hh_up (hh_up (hh_up (hh_up (rm2_ (hh_up (rm2_ (hh_up (rm2_ (hh_up (rm2_ (hh_up (hh_up (hh_up (hh_up (rm2_ (hh_up (rm2_ (hh_up (rm2_ (hh_up (rm2_ (hh_up (hh_up (hh_up (hh_up (hh_up (rm2_ (hh_up (rm2_ (hh_up (hh_up (hh_up (hh_up (hh_up (hh_up (rm2_ (hh_up (hh_up (hh_up (rm2_ ρ 3 6) 2 0 3) 2 1 10) 1 0 2) 12 4) 11 0 12) 11 1 17) 1 1 11) 1 2 18) 1 3 19) 20 0 21) 22 6) 20 1 22) 29 6) 20 2 29) 1 4 20) 36 0 37) 1 5 36) 1 6 38) 40 5) 39 0 40) 46 5) 39 1 46) 52 4) 39 2 52) 57 4) 39 3 57) 39 4 62) 39 5 63) 1 7 39) 65 5) 64 0 65) 71 5) 64 1 71) 77 4) 64 2 77) 82 4) 64 3 82) 64 4 87) 64 5 88) 1 8 64) 89 0 90) 89 1 91) 18 0 89) 92 0 93) 92 1 94) 18 1 92) 95 0 96) 95 1 97) 18 2 95), (hh_sI (hh_sI (hh_sI (hh_sL (hh_sI (hh_sI (hh_sI (hh_sI (hh_sI (hh_sI (hh_sI (hh_sI (hh_sI (hh_sI h 10 0 (-1)) 10 1 (-1)) 10 2 (-1)) 10 3 (-1)) 10 4 (-1)) 10 5 (-1)) 17 0 (-1)) 17 1 (-1)) 17 2 (-1)) 17 3 (-1)) 36 4 1) 89 2 (-1)) 92 2 (-1)) 95 2 (-1)))
  refine xc_iinc (v := 3) (lv' := [_, _]) C (dd_X7_init.at 61 rfl) (lb_ rfl) rfl (by rw [ic_1]; decide) rfl ?_
  refine xc_goto (tgt := 105) C (dd_X7_init.at 62 rfl) (by decide) ?_
  refine xc_iload_n C (dd_X7_init.at 51 rfl) rfl ?_
  refine xc_iconst C (dd_X7_init.at 52 rfl) ic_3 ?_
  refine xc_icmp_ge_t (tgt := 129) C (dd_X7_init.at 53 rfl) (by decide) (by decide) ?_
  exact xc_return C kc Q (lb_ rfl) (lb_ rfl) (dd_X7_init.at 63 rfl) rfl
theorem sc_X8_init_98 {l : Launch} {G : gt_} {ρ : Nat → Nat → Nat} {h : hh_} : okc_ l G 1 16 4842 mt_X8_init [.ref 98] (98, ρ, h) (114, (hh_up (hh_up (hh_up (hh_up (hh_up (hh_up (hh_up (hh_up (hh_up (hh_up (hh_up (hh_up (hh_up (hh_up (hh_up (hh_up ρ 98 1 99) 98 5 100) 98 6 101) 98 7 102) 98 8 103) 98 9 104) 98 13 105) 98 14 106) 98 15 107) 98 20 108) 98 22 109) 98 23 110) 98 24 111) 98 25 112) 98 26 113) 98 29 114), (hh_sI (hh_sI (hh_sI (hh_sI (hh_sI (hh_sI (hh_sI (hh_sI (hh_sI (hh_sI (hh_sI (hh_sI (hh_sI (hh_sL h 98 4 1) 100 0 (-9)) 100 1 (-9)) 100 2 (-9)) 100 3 (-9)) 100 4 (-9)) 100 5 (-9)) 103 0 (-9)) 103 1 (-9)) 103 2 (-9)) 103 3 (-9)) 110 0 (-9)) 110 1030 (-9)) 110 2060 (-9))) := by
  refine okc_of pn_RX8 rfl (lb_ rfl) (fun Z _ _ C kc hin hmc hms Q => ?_)
  show xc_ Z 0 0 0 [some (.ref 98), none] [] (98, ρ, h)
  refine xc_aload_n C (dd_X8_init.at 0 rfl) rfl (lb_ rfl) ?_
  refine xc_objInit C (dd_X8_init.at 1 rfl) lo_RX8_1 ⟨lb_ rfl, lb_ rfl⟩ (lb_ rfl) (lb_ rfl) ?_
  refine xc_aload_n C (dd_X8_init.at 2 rfl) rfl (lb_ rfl) ?_
  refine xc_bipush C (dd_X8_init.at 3 rfl) bq_6 ?_
  refine xc_newa (N := 6) C kc (by decide) (by decide) (by decide) ac_int sh_k99 (by rw [hmc]; exact lb_ rfl) (by rw [hms]; exact lb_ rfl) (dd_X8_init.at 4 rfl) ?_
  show xc_ Z 1 6 9 [some (.ref 98), none] [.ref 99, .ref 98] (99, ρ, h)
  refine xc_putR (j := 1) C hin ck_7 (lb_ rfl) lp_RX8_7 rfl (Or.inr ⟨_, rfl⟩) sh_k98 (lb_ rfl) rfl ⟨lb_ rfl, lb_ rfl⟩ (dd_X8_init.at 5 rfl) ?_
  show xc_ Z 1 6 12 [some (.ref 98), none] [] (99, (hh_up ρ 98 1 99), h)
  refine xc_aload_n C (dd_X8_init.at 6 rfl) rfl (lb_ rfl) ?_
  refine xc_lconst (v := 1) C (dd_X8_init.at 7 rfl) rfl ?_
  refine xc_putL (j := 4) C hin ck_7 (lb_ rfl) lp_RX8_13 rfl rfl sh_k98 (lb_ rfl) rfl (dd_X8_init.at 8 rfl) ?_
  show xc_ Z 1 6 17 [some (.ref 98), none] [] (99, (hh_up ρ 98 1 99), (hh_sL h 98 4 1))
  refine xc_aload_n C (dd_X8_init.at 9 rfl) rfl (lb_ rfl) ?_
  refine xc_bipush C (dd_X8_init.at 10 rfl) bq_6 ?_
  refine xc_newa (N := 6) C kc (by decide) (by decide) (by decide) ac_int sh_k100 (by rw [hmc]; exact lb_ rfl) (by rw [hms]; exact lb_ rfl) (dd_X8_init.at 11 rfl) ?_
  show xc_ Z 2 12 22 [some (.ref 98), none] [.ref 100, .ref 98] (100, (hh_up ρ 98 1 99), (hh_sL h 98 4 1))
  refine xc_putR (j := 5) C hin ck_7 (lb_ rfl) lp_RX8_17 rfl (Or.inr ⟨_, rfl⟩) sh_k98 (lb_ rfl) rfl ⟨lb_ rfl, lb_ rfl⟩ (dd_X8_init.at 12 rfl) ?_
  show xc_ Z 2 12 25 [some (.ref 98), none] [] (100, (hh_up (hh_up ρ 98 1 99) 98 5 100), (hh_sL h 98 4 1))
  refine xc_aload_n C (dd_X8_init.at 13 rfl) rfl (lb_ rfl) ?_
  refine xc_sipush C (dd_X8_init.at 14 rfl) sq_240 ?_
  refine xc_newa (N := 240) C kc (by decide) (by decide) (by decide) ac_int sh_k101 (by rw [hmc]; exact lb_ rfl) (by rw [hms]; exact lb_ rfl) (dd_X8_init.at 15 rfl) ?_
  show xc_ Z 3 252 31 [some (.ref 98), none] [.ref 101, .ref 98] (101, (hh_up (hh_up ρ 98 1 99) 98 5 100), (hh_sL h 98 4 1))
  refine xc_putR (j := 6) C hin ck_7 (lb_ rfl) lp_RX8_20 rfl (Or.inr ⟨_, rfl⟩) sh_k98 (lb_ rfl) rfl ⟨lb_ rfl, lb_ rfl⟩ (dd_X8_init.at 16 rfl) ?_
  show xc_ Z 3 252 34 [some (.ref 98), none] [] (101, (hh_up (hh_up (hh_up ρ 98 1 99) 98 5 100) 98 6 101), (hh_sL h 98 4 1))
  refine xc_aload_n C (dd_X8_init.at 17 rfl) rfl (lb_ rfl) ?_
  refine xc_bipush C (dd_X8_init.at 18 rfl) bq_40 ?_
  refine xc_newa (N := 40) C kc (by decide) (by decide) (by decide) ac_int sh_k102 (by rw [hmc]; exact lb_ rfl) (by rw [hms]; exact lb_ rfl) (dd_X8_init.at 19 rfl) ?_
  show xc_ Z 4 292 39 [some (.ref 98), none] [.ref 102, .ref 98] (102, (hh_up (hh_up (hh_up ρ 98 1 99) 98 5 100) 98 6 101), (hh_sL h 98 4 1))
  refine xc_putR (j := 7) C hin ck_7 (lb_ rfl) lp_RX8_23 rfl (Or.inr ⟨_, rfl⟩) sh_k98 (lb_ rfl) rfl ⟨lb_ rfl, lb_ rfl⟩ (dd_X8_init.at 20 rfl) ?_
  show xc_ Z 4 292 42 [some (.ref 98), none] [] (102, (hh_up (hh_up (hh_up (hh_up ρ 98 1 99) 98 5 100) 98 6 101) 98 7 102), (hh_sL h 98 4 1))
  refine xc_aload_n C (dd_X8_init.at 21 rfl) rfl (lb_ rfl) ?_
  refine xc_iconst C (dd_X8_init.at 22 rfl) ic_4 ?_
  refine xc_newa (N := 4) C kc (by decide) (by decide) (by decide) ac_int sh_k103 (by rw [hmc]; exact lb_ rfl) (by rw [hms]; exact lb_ rfl) (dd_X8_init.at 23 rfl) ?_
  show xc_ Z 5 296 46 [some (.ref 98), none] [.ref 103, .ref 98] (103, (hh_up (hh_up (hh_up (hh_up ρ 98 1 99) 98 5 100) 98 6 101) 98 7 102), (hh_sL h 98 4 1))
  refine xc_putR (j := 8) C hin ck_7 (lb_ rfl) lp_RX8_26 rfl (Or.inr ⟨_, rfl⟩) sh_k98 (lb_ rfl) rfl ⟨lb_ rfl, lb_ rfl⟩ (dd_X8_init.at 24 rfl) ?_
  show xc_ Z 5 296 49 [some (.ref 98), none] [] (103, (hh_up (hh_up (hh_up (hh_up (hh_up ρ 98 1 99) 98 5 100) 98 6 101) 98 7 102) 98 8 103), (hh_sL h 98 4 1))
  refine xc_aload_n C (dd_X8_init.at 25 rfl) rfl (lb_ rfl) ?_
  refine xc_sipush C (dd_X8_init.at 26 rfl) sq_320 ?_
  refine xc_newa (N := 320) C kc (by decide) (by decide) (by decide) ac_int sh_k104 (by rw [hmc]; exact lb_ rfl) (by rw [hms]; exact lb_ rfl) (dd_X8_init.at 27 rfl) ?_
  show xc_ Z 6 616 55 [some (.ref 98), none] [.ref 104, .ref 98] (104, (hh_up (hh_up (hh_up (hh_up (hh_up ρ 98 1 99) 98 5 100) 98 6 101) 98 7 102) 98 8 103), (hh_sL h 98 4 1))
  refine xc_putR (j := 9) C hin ck_7 (lb_ rfl) lp_RX8_29 rfl (Or.inr ⟨_, rfl⟩) sh_k98 (lb_ rfl) rfl ⟨lb_ rfl, lb_ rfl⟩ (dd_X8_init.at 28 rfl) ?_
  show xc_ Z 6 616 58 [some (.ref 98), none] [] (104, (hh_up (hh_up (hh_up (hh_up (hh_up (hh_up ρ 98 1 99) 98 5 100) 98 6 101) 98 7 102) 98 8 103) 98 9 104), (hh_sL h 98 4 1))
  refine xc_aload_n C (dd_X8_init.at 29 rfl) rfl (lb_ rfl) ?_
  refine xc_bipush C (dd_X8_init.at 30 rfl) bq_25 ?_
  refine xc_newa (N := 25) C kc (by decide) (by decide) (by decide) ac_int sh_k105 (by rw [hmc]; exact lb_ rfl) (by rw [hms]; exact lb_ rfl) (dd_X8_init.at 31 rfl) ?_
  show xc_ Z 7 641 63 [some (.ref 98), none] [.ref 105, .ref 98] (105, (hh_up (hh_up (hh_up (hh_up (hh_up (hh_up ρ 98 1 99) 98 5 100) 98 6 101) 98 7 102) 98 8 103) 98 9 104), (hh_sL h 98 4 1))
  refine xc_putR (j := 13) C hin ck_7 (lb_ rfl) lp_RX8_32 rfl (Or.inr ⟨_, rfl⟩) sh_k98 (lb_ rfl) rfl ⟨lb_ rfl, lb_ rfl⟩ (dd_X8_init.at 32 rfl) ?_
  show xc_ Z 7 641 66 [some (.ref 98), none] [] (105, (hh_up (hh_up (hh_up (hh_up (hh_up (hh_up (hh_up ρ 98 1 99) 98 5 100) 98 6 101) 98 7 102) 98 8 103) 98 9 104) 98 13 105), (hh_sL h 98 4 1))
  refine xc_aload_n C (dd_X8_init.at 33 rfl) rfl (lb_ rfl) ?_
  refine xc_bipush C (dd_X8_init.at 34 rfl) bq_12 ?_
  refine xc_newa (N := 12) C kc (by decide) (by decide) (by decide) ac_int sh_k106 (by rw [hmc]; exact lb_ rfl) (by rw [hms]; exact lb_ rfl) (dd_X8_init.at 35 rfl) ?_
  show xc_ Z 8 653 71 [some (.ref 98), none] [.ref 106, .ref 98] (106, (hh_up (hh_up (hh_up (hh_up (hh_up (hh_up (hh_up ρ 98 1 99) 98 5 100) 98 6 101) 98 7 102) 98 8 103) 98 9 104) 98 13 105), (hh_sL h 98 4 1))
  refine xc_putR (j := 14) C hin ck_7 (lb_ rfl) lp_RX8_35 rfl (Or.inr ⟨_, rfl⟩) sh_k98 (lb_ rfl) rfl ⟨lb_ rfl, lb_ rfl⟩ (dd_X8_init.at 36 rfl) ?_
  show xc_ Z 8 653 74 [some (.ref 98), none] [] (106, (hh_up (hh_up (hh_up (hh_up (hh_up (hh_up (hh_up (hh_up ρ 98 1 99) 98 5 100) 98 6 101) 98 7 102) 98 8 103) 98 9 104) 98 13 105) 98 14 106), (hh_sL h 98 4 1))
  refine xc_aload_n C (dd_X8_init.at 37 rfl) rfl (lb_ rfl) ?_
  refine xc_bipush C (dd_X8_init.at 38 rfl) bq_20 ?_
  refine xc_newa (N := 20) C kc (by decide) (by decide) (by decide) ac_int sh_k107 (by rw [hmc]; exact lb_ rfl) (by rw [hms]; exact lb_ rfl) (dd_X8_init.at 39 rfl) ?_
  show xc_ Z 9 673 79 [some (.ref 98), none] [.ref 107, .ref 98] (107, (hh_up (hh_up (hh_up (hh_up (hh_up (hh_up (hh_up (hh_up ρ 98 1 99) 98 5 100) 98 6 101) 98 7 102) 98 8 103) 98 9 104) 98 13 105) 98 14 106), (hh_sL h 98 4 1))
  refine xc_putR (j := 15) C hin ck_7 (lb_ rfl) lp_RX8_38 rfl (Or.inr ⟨_, rfl⟩) sh_k98 (lb_ rfl) rfl ⟨lb_ rfl, lb_ rfl⟩ (dd_X8_init.at 40 rfl) ?_
  show xc_ Z 9 673 82 [some (.ref 98), none] [] (107, (hh_up (hh_up (hh_up (hh_up (hh_up (hh_up (hh_up (hh_up (hh_up ρ 98 1 99) 98 5 100) 98 6 101) 98 7 102) 98 8 103) 98 9 104) 98 13 105) 98 14 106) 98 15 107), (hh_sL h 98 4 1))
  refine xc_aload_n C (dd_X8_init.at 41 rfl) rfl (lb_ rfl) ?_
  refine xc_bipush C (dd_X8_init.at 42 rfl) bq_60 ?_
  refine xc_newa (N := 60) C kc (by decide) (by decide) (by decide) ac_int sh_k108 (by rw [hmc]; exact lb_ rfl) (by rw [hms]; exact lb_ rfl) (dd_X8_init.at 43 rfl) ?_
  show xc_ Z 10 733 87 [some (.ref 98), none] [.ref 108, .ref 98] (108, (hh_up (hh_up (hh_up (hh_up (hh_up (hh_up (hh_up (hh_up (hh_up ρ 98 1 99) 98 5 100) 98 6 101) 98 7 102) 98 8 103) 98 9 104) 98 13 105) 98 14 106) 98 15 107), (hh_sL h 98 4 1))
  refine xc_putR (j := 20) C hin ck_7 (lb_ rfl) lp_RX8_41 rfl (Or.inr ⟨_, rfl⟩) sh_k98 (lb_ rfl) rfl ⟨lb_ rfl, lb_ rfl⟩ (dd_X8_init.at 44 rfl) ?_
  show xc_ Z 10 733 90 [some (.ref 98), none] [] (108, (hh_up (hh_up (hh_up (hh_up (hh_up (hh_up (hh_up (hh_up (hh_up (hh_up ρ 98 1 99) 98 5 100) 98 6 101) 98 7 102) 98 8 103) 98 9 104) 98 13 105) 98 14 106) 98 15 107) 98 20 108), (hh_sL h 98 4 1))
  refine xc_aload_n C (dd_X8_init.at 45 rfl) rfl (lb_ rfl) ?_
  refine xc_sipush C (dd_X8_init.at 46 rfl) sq_1000 ?_
  refine xc_newa (N := 1000) C kc (by decide) (by decide) (by decide) ac_int sh_k109 (by rw [hmc]; exact lb_ rfl) (by rw [hms]; exact lb_ rfl) (dd_X8_init.at 47 rfl) ?_
  show xc_ Z 11 1733 96 [some (.ref 98), none] [.ref 109, .ref 98] (109, (hh_up (hh_up (hh_up (hh_up (hh_up (hh_up (hh_up (hh_up (hh_up (hh_up ρ 98 1 99) 98 5 100) 98 6 101) 98 7 102) 98 8 103) 98 9 104) 98 13 105) 98 14 106) 98 15 107) 98 20 108), (hh_sL h 98 4 1))
  refine xc_putR (j := 22) C hin ck_7 (lb_ rfl) lp_RX8_44 rfl (Or.inr ⟨_, rfl⟩) sh_k98 (lb_ rfl) rfl ⟨lb_ rfl, lb_ rfl⟩ (dd_X8_init.at 48 rfl) ?_
  show xc_ Z 11 1733 99 [some (.ref 98), none] [] (109, (hh_up (hh_up (hh_up (hh_up (hh_up (hh_up (hh_up (hh_up (hh_up (hh_up (hh_up ρ 98 1 99) 98 5 100) 98 6 101) 98 7 102) 98 8 103) 98 9 104) 98 13 105) 98 14 106) 98 15 107) 98 20 108) 98 22 109), (hh_sL h 98 4 1))
  refine xc_aload_n C (dd_X8_init.at 49 rfl) rfl (lb_ rfl) ?_
  refine xc_sipush C (dd_X8_init.at 50 rfl) sq_3090 ?_
  refine xc_newa (N := 3090) C kc (by decide) (by decide) (by decide) ac_int sh_k110 (by rw [hmc]; exact lb_ rfl) (by rw [hms]; exact lb_ rfl) (dd_X8_init.at 51 rfl) ?_
  show xc_ Z 12 4823 105 [some (.ref 98), none] [.ref 110, .ref 98] (110, (hh_up (hh_up (hh_up (hh_up (hh_up (hh_up (hh_up (hh_up (hh_up (hh_up (hh_up ρ 98 1 99) 98 5 100) 98 6 101) 98 7 102) 98 8 103) 98 9 104) 98 13 105) 98 14 106) 98 15 107) 98 20 108) 98 22 109), (hh_sL h 98 4 1))
  refine xc_putR (j := 23) C hin ck_7 (lb_ rfl) lp_RX8_47 rfl (Or.inr ⟨_, rfl⟩) sh_k98 (lb_ rfl) rfl ⟨lb_ rfl, lb_ rfl⟩ (dd_X8_init.at 52 rfl) ?_
  show xc_ Z 12 4823 108 [some (.ref 98), none] [] (110, (hh_up (hh_up (hh_up (hh_up (hh_up (hh_up (hh_up (hh_up (hh_up (hh_up (hh_up (hh_up ρ 98 1 99) 98 5 100) 98 6 101) 98 7 102) 98 8 103) 98 9 104) 98 13 105) 98 14 106) 98 15 107) 98 20 108) 98 22 109) 98 23 110), (hh_sL h 98 4 1))
  refine xc_aload_n C (dd_X8_init.at 53 rfl) rfl (lb_ rfl) ?_
  refine xc_iconst C (dd_X8_init.at 54 rfl) ic_5 ?_
  refine xc_newa (N := 5) C kc (by decide) (by decide) (by decide) ac_int sh_k111 (by rw [hmc]; exact lb_ rfl) (by rw [hms]; exact lb_ rfl) (dd_X8_init.at 55 rfl) ?_
  show xc_ Z 13 4828 112 [some (.ref 98), none] [.ref 111, .ref 98] (111, (hh_up (hh_up (hh_up (hh_up (hh_up (hh_up (hh_up (hh_up (hh_up (hh_up (hh_up (hh_up ρ 98 1 99) 98 5 100) 98 6 101) 98 7 102) 98 8 103) 98 9 104) 98 13 105) 98 14 106) 98 15 107) 98 20 108) 98 22 109) 98 23 110), (hh_sL h 98 4 1))
  refine xc_putR (j := 24) C hin ck_7 (lb_ rfl) lp_RX8_50 rfl (Or.inr ⟨_, rfl⟩) sh_k98 (lb_ rfl) rfl ⟨lb_ rfl, lb_ rfl⟩ (dd_X8_init.at 56 rfl) ?_
  show xc_ Z 13 4828 115 [some (.ref 98), none] [] (111, (hh_up (hh_up (hh_up (hh_up (hh_up (hh_up (hh_up (hh_up (hh_up (hh_up (hh_up (hh_up (hh_up ρ 98 1 99) 98 5 100) 98 6 101) 98 7 102) 98 8 103) 98 9 104) 98 13 105) 98 14 106) 98 15 107) 98 20 108) 98 22 109) 98 23 110) 98 24 111), (hh_sL h 98 4 1))
  refine xc_aload_n C (dd_X8_init.at 57 rfl) rfl (lb_ rfl) ?_
  refine xc_iconst C (dd_X8_init.at 58 rfl) ic_5 ?_
  refine xc_newa (N := 5) C kc (by decide) (by decide) (by decide) ac_int sh_k112 (by rw [hmc]; exact lb_ rfl) (by rw [hms]; exact lb_ rfl) (dd_X8_init.at 59 rfl) ?_
  show xc_ Z 14 4833 119 [some (.ref 98), none] [.ref 112, .ref 98] (112, (hh_up (hh_up (hh_up (hh_up (hh_up (hh_up (hh_up (hh_up (hh_up (hh_up (hh_up (hh_up (hh_up ρ 98 1 99) 98 5 100) 98 6 101) 98 7 102) 98 8 103) 98 9 104) 98 13 105) 98 14 106) 98 15 107) 98 20 108) 98 22 109) 98 23 110) 98 24 111), (hh_sL h 98 4 1))
  refine xc_putR (j := 25) C hin ck_7 (lb_ rfl) lp_RX8_53 rfl (Or.inr ⟨_, rfl⟩) sh_k98 (lb_ rfl) rfl ⟨lb_ rfl, lb_ rfl⟩ (dd_X8_init.at 60 rfl) ?_
  show xc_ Z 14 4833 122 [some (.ref 98), none] [] (112, (hh_up (hh_up (hh_up (hh_up (hh_up (hh_up (hh_up (hh_up (hh_up (hh_up (hh_up (hh_up (hh_up (hh_up ρ 98 1 99) 98 5 100) 98 6 101) 98 7 102) 98 8 103) 98 9 104) 98 13 105) 98 14 106) 98 15 107) 98 20 108) 98 22 109) 98 23 110) 98 24 111) 98 25 112), (hh_sL h 98 4 1))
  refine xc_aload_n C (dd_X8_init.at 61 rfl) rfl (lb_ rfl) ?_
  refine xc_iconst C (dd_X8_init.at 62 rfl) ic_5 ?_
  refine xc_newa (N := 5) C kc (by decide) (by decide) (by decide) ac_int sh_k113 (by rw [hmc]; exact lb_ rfl) (by rw [hms]; exact lb_ rfl) (dd_X8_init.at 63 rfl) ?_
  show xc_ Z 15 4838 126 [some (.ref 98), none] [.ref 113, .ref 98] (113, (hh_up (hh_up (hh_up (hh_up (hh_up (hh_up (hh_up (hh_up (hh_up (hh_up (hh_up (hh_up (hh_up (hh_up ρ 98 1 99) 98 5 100) 98 6 101) 98 7 102) 98 8 103) 98 9 104) 98 13 105) 98 14 106) 98 15 107) 98 20 108) 98 22 109) 98 23 110) 98 24 111) 98 25 112), (hh_sL h 98 4 1))
  refine xc_putR (j := 26) C hin ck_7 (lb_ rfl) lp_RX8_56 rfl (Or.inr ⟨_, rfl⟩) sh_k98 (lb_ rfl) rfl ⟨lb_ rfl, lb_ rfl⟩ (dd_X8_init.at 64 rfl) ?_
  show xc_ Z 15 4838 129 [some (.ref 98), none] [] (113, (hh_up (hh_up (hh_up (hh_up (hh_up (hh_up (hh_up (hh_up (hh_up (hh_up (hh_up (hh_up (hh_up (hh_up (hh_up ρ 98 1 99) 98 5 100) 98 6 101) 98 7 102) 98 8 103) 98 9 104) 98 13 105) 98 14 106) 98 15 107) 98 20 108) 98 22 109) 98 23 110) 98 24 111) 98 25 112) 98 26 113), (hh_sL h 98 4 1))
  refine xc_aload_n C (dd_X8_init.at 65 rfl) rfl (lb_ rfl) ?_
  refine xc_iconst C (dd_X8_init.at 66 rfl) ic_4 ?_
  refine xc_newa (N := 4) C kc (by decide) (by decide) (by decide) ac_int sh_k114 (by rw [hmc]; exact lb_ rfl) (by rw [hms]; exact lb_ rfl) (dd_X8_init.at 67 rfl) ?_
  show xc_ Z 16 4842 133 [some (.ref 98), none] [.ref 114, .ref 98] (114, (hh_up (hh_up (hh_up (hh_up (hh_up (hh_up (hh_up (hh_up (hh_up (hh_up (hh_up (hh_up (hh_up (hh_up (hh_up ρ 98 1 99) 98 5 100) 98 6 101) 98 7 102) 98 8 103) 98 9 104) 98 13 105) 98 14 106) 98 15 107) 98 20 108) 98 22 109) 98 23 110) 98 24 111) 98 25 112) 98 26 113), (hh_sL h 98 4 1))
  refine xc_putR (j := 29) C hin ck_7 (lb_ rfl) lp_RX8_59 rfl (Or.inr ⟨_, rfl⟩) sh_k98 (lb_ rfl) rfl ⟨lb_ rfl, lb_ rfl⟩ (dd_X8_init.at 68 rfl) ?_
  show xc_ Z 16 4842 136 [some (.ref 98), none] [] (114, (hh_up (hh_up (hh_up (hh_up (hh_up (hh_up (hh_up (hh_up (hh_up (hh_up (hh_up (hh_up (hh_up (hh_up (hh_up (hh_up ρ 98 1 99) 98 5 100) 98 6 101) 98 7 102) 98 8 103) 98 9 104) 98 13 105) 98 14 106) 98 15 107) 98 20 108) 98 22 109) 98 23 110) 98 24 111) 98 25 112) 98 26 113) 98 29 114), (hh_sL h 98 4 1))
  refine xc_iconst C (dd_X8_init.at 69 rfl) ic_0 ?_
  refine xc_istore_n (lv' := [_, _]) C (dd_X8_init.at 70 rfl) (lb_ rfl) rfl ?_
  refine xc_iload_n C (dd_X8_init.at 71 rfl) rfl ?_
  refine xc_bipush C (dd_X8_init.at 72 rfl) bq_6 ?_
  refine xc_icmp_ge_f (tgt := 158) C (dd_X8_init.at 73 rfl) (by decide) (by decide) ?_
  refine xc_aload_n C (dd_X8_init.at 74 rfl) rfl (lb_ rfl) ?_
  refine xc_getR (j := 5) (r := 100) C ck_7 (lb_ rfl) lg_RX8_17 sh_k98 (lb_ rfl) rfl (lb_ rfl) rfl (by rw [hmc]; exact lb_ rfl) (by rw [hms]; exact lb_ rfl) (dd_X8_init.at 75 rfl) ?_
  refine xc_iload_n C (dd_X8_init.at 76 rfl) rfl ?_
  refine xc_bipush C (dd_X8_init.at 77 rfl) bq_m9 ?_
  refine xc_iastore (i0 := 0) C (dd_X8_init.at 78 rfl) sh_k100 (lb_ rfl) (bi_ok (i := 0) (n := 6) rfl) (by decide) ?_
  show xc_ Z 16 4842 152 [some (.ref 98), some (.int 0)] [] (114, (hh_up (hh_up (hh_up (hh_up (hh_up (hh_up (hh_up (hh_up (hh_up (hh_up (hh_up (hh_up (hh_up (hh_up (hh_up (hh_up ρ 98 1 99) 98 5 100) 98 6 101) 98 7 102) 98 8 103) 98 9 104) 98 13 105) 98 14 106) 98 15 107) 98 20 108) 98 22 109) 98 23 110) 98 24 111) 98 25 112) 98 26 113) 98 29 114), (hh_sI (hh_sL h 98 4 1) 100 0 (-9)))
  refine xc_iinc (v := 1) (lv' := [_, _]) C (dd_X8_init.at 79 rfl) (lb_ rfl) rfl (by rw [ic_1]; decide) rfl ?_
  refine xc_goto (tgt := 138) C (dd_X8_init.at 80 rfl) (by decide) ?_
  refine xc_iload_n C (dd_X8_init.at 71 rfl) rfl ?_
  refine xc_bipush C (dd_X8_init.at 72 rfl) bq_6 ?_
  refine xc_icmp_ge_f (tgt := 158) C (dd_X8_init.at 73 rfl) (by decide) (by decide) ?_
  refine xc_aload_n C (dd_X8_init.at 74 rfl) rfl (lb_ rfl) ?_
  refine xc_getR (j := 5) (r := 100) C ck_7 (lb_ rfl) lg_RX8_17 sh_k98 (lb_ rfl) rfl (lb_ rfl) rfl (by rw [hmc]; exact lb_ rfl) (by rw [hms]; exact lb_ rfl) (dd_X8_init.at 75 rfl) ?_
  refine xc_iload_n C (dd_X8_init.at 76 rfl) rfl ?_
  refine xc_bipush C (dd_X8_init.at 77 rfl) bq_m9 ?_
  refine xc_iastore (i0 := 1) C (dd_X8_init.at 78 rfl) sh_k100 (lb_ rfl) (bi_ok (i := 1) (n := 6) rfl) (by decide) ?_
  show xc_ Z 16 4842 152 [some (.ref 98), some (.int 1)] [] (114, (hh_up (hh_up (hh_up (hh_up (hh_up (hh_up (hh_up (hh_up (hh_up (hh_up (hh_up (hh_up (hh_up (hh_up (hh_up (hh_up ρ 98 1 99) 98 5 100) 98 6 101) 98 7 102) 98 8 103) 98 9 104) 98 13 105) 98 14 106) 98 15 107) 98 20 108) 98 22 109) 98 23 110) 98 24 111) 98 25 112) 98 26 113) 98 29 114), (hh_sI (hh_sI (hh_sL h 98 4 1) 100 0 (-9)) 100 1 (-9)))
  refine xc_iinc (v := 2) (lv' := [_, _]) C (dd_X8_init.at 79 rfl) (lb_ rfl) rfl (by rw [ic_1]; decide) rfl ?_
  refine xc_goto (tgt := 138) C (dd_X8_init.at 80 rfl) (by decide) ?_
  refine xc_iload_n C (dd_X8_init.at 71 rfl) rfl ?_
  refine xc_bipush C (dd_X8_init.at 72 rfl) bq_6 ?_
  refine xc_icmp_ge_f (tgt := 158) C (dd_X8_init.at 73 rfl) (by decide) (by decide) ?_
  refine xc_aload_n C (dd_X8_init.at 74 rfl) rfl (lb_ rfl) ?_
  refine xc_getR (j := 5) (r := 100) C ck_7 (lb_ rfl) lg_RX8_17 sh_k98 (lb_ rfl) rfl (lb_ rfl) rfl (by rw [hmc]; exact lb_ rfl) (by rw [hms]; exact lb_ rfl) (dd_X8_init.at 75 rfl) ?_
  refine xc_iload_n C (dd_X8_init.at 76 rfl) rfl ?_
  refine xc_bipush C (dd_X8_init.at 77 rfl) bq_m9 ?_
  refine xc_iastore (i0 := 2) C (dd_X8_init.at 78 rfl) sh_k100 (lb_ rfl) (bi_ok (i := 2) (n := 6) rfl) (by decide) ?_
  show xc_ Z 16 4842 152 [some (.ref 98), some (.int 2)] [] (114, (hh_up (hh_up (hh_up (hh_up (hh_up (hh_up (hh_up (hh_up (hh_up (hh_up (hh_up (hh_up (hh_up (hh_up (hh_up (hh_up ρ 98 1 99) 98 5 100) 98 6 101) 98 7 102) 98 8 103) 98 9 104) 98 13 105) 98 14 106) 98 15 107) 98 20 108) 98 22 109) 98 23 110) 98 24 111) 98 25 112) 98 26 113) 98 29 114), (hh_sI (hh_sI (hh_sI (hh_sL h 98 4 1) 100 0 (-9)) 100 1 (-9)) 100 2 (-9)))
  refine xc_iinc (v := 3) (lv' := [_, _]) C (dd_X8_init.at 79 rfl) (lb_ rfl) rfl (by rw [ic_1]; decide) rfl ?_
  refine xc_goto (tgt := 138) C (dd_X8_init.at 80 rfl) (by decide) ?_
  refine xc_iload_n C (dd_X8_init.at 71 rfl) rfl ?_
  refine xc_bipush C (dd_X8_init.at 72 rfl) bq_6 ?_
  refine xc_icmp_ge_f (tgt := 158) C (dd_X8_init.at 73 rfl) (by decide) (by decide) ?_
  refine xc_aload_n C (dd_X8_init.at 74 rfl) rfl (lb_ rfl) ?_
  refine xc_getR (j := 5) (r := 100) C ck_7 (lb_ rfl) lg_RX8_17 sh_k98 (lb_ rfl) rfl (lb_ rfl) rfl (by rw [hmc]; exact lb_ rfl) (by rw [hms]; exact lb_ rfl) (dd_X8_init.at 75 rfl) ?_
  refine xc_iload_n C (dd_X8_init.at 76 rfl) rfl ?_
  refine xc_bipush C (dd_X8_init.at 77 rfl) bq_m9 ?_
  refine xc_iastore (i0 := 3) C (dd_X8_init.at 78 rfl) sh_k100 (lb_ rfl) (bi_ok (i := 3) (n := 6) rfl) (by decide) ?_
  show xc_ Z 16 4842 152 [some (.ref 98), some (.int 3)] [] (114, (hh_up (hh_up (hh_up (hh_up (hh_up (hh_up (hh_up (hh_up (hh_up (hh_up (hh_up (hh_up (hh_up (hh_up (hh_up (hh_up ρ 98 1 99) 98 5 100) 98 6 101) 98 7 102) 98 8 103) 98 9 104) 98 13 105) 98 14 106) 98 15 107) 98 20 108) 98 22 109) 98 23 110) 98 24 111) 98 25 112) 98 26 113) 98 29 114), (hh_sI (hh_sI (hh_sI (hh_sI (hh_sL h 98 4 1) 100 0 (-9)) 100 1 (-9)) 100 2 (-9)) 100 3 (-9)))
  refine xc_iinc (v := 4) (lv' := [_, _]) C (dd_X8_init.at 79 rfl) (lb_ rfl) rfl (by rw [ic_1]; decide) rfl ?_
  refine xc_goto (tgt := 138) C (dd_X8_init.at 80 rfl) (by decide) ?_
  refine xc_iload_n C (dd_X8_init.at 71 rfl) rfl ?_
  refine xc_bipush C (dd_X8_init.at 72 rfl) bq_6 ?_
  refine xc_icmp_ge_f (tgt := 158) C (dd_X8_init.at 73 rfl) (by decide) (by decide) ?_
  refine xc_aload_n C (dd_X8_init.at 74 rfl) rfl (lb_ rfl) ?_
  refine xc_getR (j := 5) (r := 100) C ck_7 (lb_ rfl) lg_RX8_17 sh_k98 (lb_ rfl) rfl (lb_ rfl) rfl (by rw [hmc]; exact lb_ rfl) (by rw [hms]; exact lb_ rfl) (dd_X8_init.at 75 rfl) ?_
  refine xc_iload_n C (dd_X8_init.at 76 rfl) rfl ?_
  refine xc_bipush C (dd_X8_init.at 77 rfl) bq_m9 ?_
  refine xc_iastore (i0 := 4) C (dd_X8_init.at 78 rfl) sh_k100 (lb_ rfl) (bi_ok (i := 4) (n := 6) rfl) (by decide) ?_
  show xc_ Z 16 4842 152 [some (.ref 98), some (.int 4)] [] (114, (hh_up (hh_up (hh_up (hh_up (hh_up (hh_up (hh_up (hh_up (hh_up (hh_up (hh_up (hh_up (hh_up (hh_up (hh_up (hh_up ρ 98 1 99) 98 5 100) 98 6 101) 98 7 102) 98 8 103) 98 9 104) 98 13 105) 98 14 106) 98 15 107) 98 20 108) 98 22 109) 98 23 110) 98 24 111) 98 25 112) 98 26 113) 98 29 114), (hh_sI (hh_sI (hh_sI (hh_sI (hh_sI (hh_sL h 98 4 1) 100 0 (-9)) 100 1 (-9)) 100 2 (-9)) 100 3 (-9)) 100 4 (-9)))
  refine xc_iinc (v := 5) (lv' := [_, _]) C (dd_X8_init.at 79 rfl) (lb_ rfl) rfl (by rw [ic_1]; decide) rfl ?_
  refine xc_goto (tgt := 138) C (dd_X8_init.at 80 rfl) (by decide) ?_
  refine xc_iload_n C (dd_X8_init.at 71 rfl) rfl ?_
  refine xc_bipush C (dd_X8_init.at 72 rfl) bq_6 ?_
  refine xc_icmp_ge_f (tgt := 158) C (dd_X8_init.at 73 rfl) (by decide) (by decide) ?_
  refine xc_aload_n C (dd_X8_init.at 74 rfl) rfl (lb_ rfl) ?_
  refine xc_getR (j := 5) (r := 100) C ck_7 (lb_ rfl) lg_RX8_17 sh_k98 (lb_ rfl) rfl (lb_ rfl) rfl (by rw [hmc]; exact lb_ rfl) (by rw [hms]; exact lb_ rfl) (dd_X8_init.at 75 rfl) ?_
  refine xc_iload_n C (dd_X8_init.at 76 rfl) rfl ?_
  refine xc_bipush C (dd_X8_init.at 77 rfl) bq_m9 ?_
  refine xc_iastore (i0 := 5) C (dd_X8_init.at 78 rfl) sh_k100 (lb_ rfl) (bi_ok (i := 5) (n := 6) rfl) (by decide) ?_
  show xc_ Z 16 4842 152 [some (.ref 98), some (.int 5)] [] (114, (hh_up (hh_up (hh_up (hh_up (hh_up (hh_up (hh_up (hh_up (hh_up (hh_up (hh_up (hh_up (hh_up (hh_up (hh_up (hh_up ρ 98 1 99) 98 5 100) 98 6 101) 98 7 102) 98 8 103) 98 9 104) 98 13 105) 98 14 106) 98 15 107) 98 20 108) 98 22 109) 98 23 110) 98 24 111) 98 25 112) 98 26 113) 98 29 114), (hh_sI (hh_sI (hh_sI (hh_sI (hh_sI (hh_sI (hh_sL h 98 4 1) 100 0 (-9)) 100 1 (-9)) 100 2 (-9)) 100 3 (-9)) 100 4 (-9)) 100 5 (-9)))
  refine xc_iinc (v := 6) (lv' := [_, _]) C (dd_X8_init.at 79 rfl) (lb_ rfl) rfl (by rw [ic_1]; decide) rfl ?_
  refine xc_goto (tgt := 138) C (dd_X8_init.at 80 rfl) (by decide) ?_
  refine xc_iload_n C (dd_X8_init.at 71 rfl) rfl ?_
  refine xc_bipush C (dd_X8_init.at 72 rfl) bq_6 ?_
  refine xc_icmp_ge_t (tgt := 158) C (dd_X8_init.at 73 rfl) (by decide) (by decide) ?_
  refine xc_iconst C (dd_X8_init.at 81 rfl) ic_0 ?_
  refine xc_istore_n (lv' := [_, _]) C (dd_X8_init.at 82 rfl) (lb_ rfl) rfl ?_
  refine xc_iload_n C (dd_X8_init.at 83 rfl) rfl ?_
  refine xc_iconst C (dd_X8_init.at 84 rfl) ic_4 ?_
  refine xc_icmp_ge_f (tgt := 179) C (dd_X8_init.at 85 rfl) (by decide) (by decide) ?_
  refine xc_aload_n C (dd_X8_init.at 86 rfl) rfl (lb_ rfl) ?_
  refine xc_getR (j := 8) (r := 103) C ck_7 (lb_ rfl) lg_RX8_26 sh_k98 (lb_ rfl) rfl (lb_ rfl) rfl (by rw [hmc]; exact lb_ rfl) (by rw [hms]; exact lb_ rfl) (dd_X8_init.at 87 rfl) ?_
  refine xc_iload_n C (dd_X8_init.at 88 rfl) rfl ?_
  refine xc_bipush C (dd_X8_init.at 89 rfl) bq_m9 ?_
  refine xc_iastore (i0 := 0) C (dd_X8_init.at 90 rfl) sh_k103 (lb_ rfl) (bi_ok (i := 0) (n := 4) rfl) (by decide) ?_
  show xc_ Z 16 4842 173 [some (.ref 98), some (.int 0)] [] (114, (hh_up (hh_up (hh_up (hh_up (hh_up (hh_up (hh_up (hh_up (hh_up (hh_up (hh_up (hh_up (hh_up (hh_up (hh_up (hh_up ρ 98 1 99) 98 5 100) 98 6 101) 98 7 102) 98 8 103) 98 9 104) 98 13 105) 98 14 106) 98 15 107) 98 20 108) 98 22 109) 98 23 110) 98 24 111) 98 25 112) 98 26 113) 98 29 114), (hh_sI (hh_sI (hh_sI (hh_sI (hh_sI (hh_sI (hh_sI (hh_sL h 98 4 1) 100 0 (-9)) 100 1 (-9)) 100 2 (-9)) 100 3 (-9)) 100 4 (-9)) 100 5 (-9)) 103 0 (-9)))
  refine xc_iinc (v := 1) (lv' := [_, _]) C (dd_X8_init.at 91 rfl) (lb_ rfl) rfl (by rw [ic_1]; decide) rfl ?_
  refine xc_goto (tgt := 160) C (dd_X8_init.at 92 rfl) (by decide) ?_
  refine xc_iload_n C (dd_X8_init.at 83 rfl) rfl ?_
  refine xc_iconst C (dd_X8_init.at 84 rfl) ic_4 ?_
  refine xc_icmp_ge_f (tgt := 179) C (dd_X8_init.at 85 rfl) (by decide) (by decide) ?_
  refine xc_aload_n C (dd_X8_init.at 86 rfl) rfl (lb_ rfl) ?_
  refine xc_getR (j := 8) (r := 103) C ck_7 (lb_ rfl) lg_RX8_26 sh_k98 (lb_ rfl) rfl (lb_ rfl) rfl (by rw [hmc]; exact lb_ rfl) (by rw [hms]; exact lb_ rfl) (dd_X8_init.at 87 rfl) ?_
  refine xc_iload_n C (dd_X8_init.at 88 rfl) rfl ?_
  refine xc_bipush C (dd_X8_init.at 89 rfl) bq_m9 ?_
  refine xc_iastore (i0 := 1) C (dd_X8_init.at 90 rfl) sh_k103 (lb_ rfl) (bi_ok (i := 1) (n := 4) rfl) (by decide) ?_
  show xc_ Z 16 4842 173 [some (.ref 98), some (.int 1)] [] (114, (hh_up (hh_up (hh_up (hh_up (hh_up (hh_up (hh_up (hh_up (hh_up (hh_up (hh_up (hh_up (hh_up (hh_up (hh_up (hh_up ρ 98 1 99) 98 5 100) 98 6 101) 98 7 102) 98 8 103) 98 9 104) 98 13 105) 98 14 106) 98 15 107) 98 20 108) 98 22 109) 98 23 110) 98 24 111) 98 25 112) 98 26 113) 98 29 114), (hh_sI (hh_sI (hh_sI (hh_sI (hh_sI (hh_sI (hh_sI (hh_sI (hh_sL h 98 4 1) 100 0 (-9)) 100 1 (-9)) 100 2 (-9)) 100 3 (-9)) 100 4 (-9)) 100 5 (-9)) 103 0 (-9)) 103 1 (-9)))
  refine xc_iinc (v := 2) (lv' := [_, _]) C (dd_X8_init.at 91 rfl) (lb_ rfl) rfl (by rw [ic_1]; decide) rfl ?_
  refine xc_goto (tgt := 160) C (dd_X8_init.at 92 rfl) (by decide) ?_
  refine xc_iload_n C (dd_X8_init.at 83 rfl) rfl ?_
  refine xc_iconst C (dd_X8_init.at 84 rfl) ic_4 ?_
  refine xc_icmp_ge_f (tgt := 179) C (dd_X8_init.at 85 rfl) (by decide) (by decide) ?_
  refine xc_aload_n C (dd_X8_init.at 86 rfl) rfl (lb_ rfl) ?_
  refine xc_getR (j := 8) (r := 103) C ck_7 (lb_ rfl) lg_RX8_26 sh_k98 (lb_ rfl) rfl (lb_ rfl) rfl (by rw [hmc]; exact lb_ rfl) (by rw [hms]; exact lb_ rfl) (dd_X8_init.at 87 rfl) ?_
  refine xc_iload_n C (dd_X8_init.at 88 rfl) rfl ?_
  refine xc_bipush C (dd_X8_init.at 89 rfl) bq_m9 ?_
  refine xc_iastore (i0 := 2) C (dd_X8_init.at 90 rfl) sh_k103 (lb_ rfl) (bi_ok (i := 2) (n := 4) rfl) (by decide) ?_
  show xc_ Z 16 4842 173 [some (.ref 98), some (.int 2)] [] (114, (hh_up (hh_up (hh_up (hh_up (hh_up (hh_up (hh_up (hh_up (hh_up (hh_up (hh_up (hh_up (hh_up (hh_up (hh_up (hh_up ρ 98 1 99) 98 5 100) 98 6 101) 98 7 102) 98 8 103) 98 9 104) 98 13 105) 98 14 106) 98 15 107) 98 20 108) 98 22 109) 98 23 110) 98 24 111) 98 25 112) 98 26 113) 98 29 114), (hh_sI (hh_sI (hh_sI (hh_sI (hh_sI (hh_sI (hh_sI (hh_sI (hh_sI (hh_sL h 98 4 1) 100 0 (-9)) 100 1 (-9)) 100 2 (-9)) 100 3 (-9)) 100 4 (-9)) 100 5 (-9)) 103 0 (-9)) 103 1 (-9)) 103 2 (-9)))
  refine xc_iinc (v := 3) (lv' := [_, _]) C (dd_X8_init.at 91 rfl) (lb_ rfl) rfl (by rw [ic_1]; decide) rfl ?_
  refine xc_goto (tgt := 160) C (dd_X8_init.at 92 rfl) (by decide) ?_
  refine xc_iload_n C (dd_X8_init.at 83 rfl) rfl ?_
  refine xc_iconst C (dd_X8_init.at 84 rfl) ic_4 ?_
  refine xc_icmp_ge_f (tgt := 179) C (dd_X8_init.at 85 rfl) (by decide) (by decide) ?_
  refine xc_aload_n C (dd_X8_init.at 86 rfl) rfl (lb_ rfl) ?_
  refine xc_getR (j := 8) (r := 103) C ck_7 (lb_ rfl) lg_RX8_26 sh_k98 (lb_ rfl) rfl (lb_ rfl) rfl (by rw [hmc]; exact lb_ rfl) (by rw [hms]; exact lb_ rfl) (dd_X8_init.at 87 rfl) ?_
  refine xc_iload_n C (dd_X8_init.at 88 rfl) rfl ?_
  refine xc_bipush C (dd_X8_init.at 89 rfl) bq_m9 ?_
  refine xc_iastore (i0 := 3) C (dd_X8_init.at 90 rfl) sh_k103 (lb_ rfl) (bi_ok (i := 3) (n := 4) rfl) (by decide) ?_
  show xc_ Z 16 4842 173 [some (.ref 98), some (.int 3)] [] (114, (hh_up (hh_up (hh_up (hh_up (hh_up (hh_up (hh_up (hh_up (hh_up (hh_up (hh_up (hh_up (hh_up (hh_up (hh_up (hh_up ρ 98 1 99) 98 5 100) 98 6 101) 98 7 102) 98 8 103) 98 9 104) 98 13 105) 98 14 106) 98 15 107) 98 20 108) 98 22 109) 98 23 110) 98 24 111) 98 25 112) 98 26 113) 98 29 114), (hh_sI (hh_sI (hh_sI (hh_sI (hh_sI (hh_sI (hh_sI (hh_sI (hh_sI (hh_sI (hh_sL h 98 4 1) 100 0 (-9)) 100 1 (-9)) 100 2 (-9)) 100 3 (-9)) 100 4 (-9)) 100 5 (-9)) 103 0 (-9)) 103 1 (-9)) 103 2 (-9)) 103 3 (-9)))
  refine xc_iinc (v := 4) (lv' := [_, _]) C (dd_X8_init.at 91 rfl) (lb_ rfl) rfl (by rw [ic_1]; decide) rfl ?_
  refine xc_goto (tgt := 160) C (dd_X8_init.at 92 rfl) (by decide) ?_
  refine xc_iload_n C (dd_X8_init.at 83 rfl) rfl ?_
  refine xc_iconst C (dd_X8_init.at 84 rfl) ic_4 ?_
  refine xc_icmp_ge_t (tgt := 179) C (dd_X8_init.at 85 rfl) (by decide) (by decide) ?_
  refine xc_iconst C (dd_X8_init.at 93 rfl) ic_0 ?_
  refine xc_istore_n (lv' := [_, _]) C (dd_X8_init.at 94 rfl) (lb_ rfl) rfl ?_
  refine xc_iload_n C (dd_X8_init.at 95 rfl) rfl ?_
  refine xc_iconst C (dd_X8_init.at 96 rfl) ic_3 ?_
  refine xc_icmp_ge_f (tgt := 204) C (dd_X8_init.at 97 rfl) (by decide) (by decide) ?_
  refine xc_aload_n C (dd_X8_init.at 98 rfl) rfl (lb_ rfl) ?_
  refine xc_getR (j := 23) (r := 110) C ck_7 (lb_ rfl) lg_RX8_47 sh_k98 (lb_ rfl) rfl (lb_ rfl) rfl (by rw [hmc]; exact lb_ rfl) (by rw [hms]; exact lb_ rfl) (dd_X8_init.at 99 rfl) ?_
  refine xc_sipush C (dd_X8_init.at 100 rfl) sq_1030 ?_
  refine xc_iload_n C (dd_X8_init.at 101 rfl) rfl ?_
  refine xc_imul (v := 0) C (dd_X8_init.at 102 rfl) (by decide) ?_
  refine xc_bipush C (dd_X8_init.at 103 rfl) bq_m9 ?_
  refine xc_iastore (i0 := 0) C (dd_X8_init.at 104 rfl) sh_k110 (lb_ rfl) (bi_ok (i := 0) (n := 3090) rfl) (by decide) ?_
  show xc_ Z 16 4842 198 [some (.ref 98), some (.int 0)] [] (114, (hh_up (hh_up (hh_up (hh_up (hh_up (hh_up (hh_up (hh_up (hh_up (hh_up (hh_up (hh_up (hh_up (hh_up (hh_up (hh_up ρ 98 1 99) 98 5 100) 98 6 101) 98 7 102) 98 8 103) 98 9 104) 98 13 105) 98 14 106) 98 15 107) 98 20 108) 98 22 109) 98 23 110) 98 24 111) 98 25 112) 98 26 113) 98 29 114), (hh_sI (hh_sI (hh_sI (hh_sI (hh_sI (hh_sI (hh_sI (hh_sI (hh_sI (hh_sI (hh_sI (hh_sL h 98 4 1) 100 0 (-9)) 100 1 (-9)) 100 2 (-9)) 100 3 (-9)) 100 4 (-9)) 100 5 (-9)) 103 0 (-9)) 103 1 (-9)) 103 2 (-9)) 103 3 (-9)) 110 0 (-9)))
  refine xc_iinc (v := 1) (lv' := [_, _]) C (dd_X8_init.at 105 rfl) (lb_ rfl) rfl (by rw [ic_1]; decide) rfl ?_
  refine xc_goto (tgt := 181) C (dd_X8_init.at 106 rfl) (by decide) ?_
  refine xc_iload_n C (dd_X8_init.at 95 rfl) rfl ?_
  refine xc_iconst C (dd_X8_init.at 96 rfl) ic_3 ?_
  refine xc_icmp_ge_f (tgt := 204) C (dd_X8_init.at 97 rfl) (by decide) (by decide) ?_
  refine xc_aload_n C (dd_X8_init.at 98 rfl) rfl (lb_ rfl) ?_
  refine xc_getR (j := 23) (r := 110) C ck_7 (lb_ rfl) lg_RX8_47 sh_k98 (lb_ rfl) rfl (lb_ rfl) rfl (by rw [hmc]; exact lb_ rfl) (by rw [hms]; exact lb_ rfl) (dd_X8_init.at 99 rfl) ?_
  refine xc_sipush C (dd_X8_init.at 100 rfl) sq_1030 ?_
  refine xc_iload_n C (dd_X8_init.at 101 rfl) rfl ?_
  refine xc_imul (v := 1030) C (dd_X8_init.at 102 rfl) (by decide) ?_
  refine xc_bipush C (dd_X8_init.at 103 rfl) bq_m9 ?_
  refine xc_iastore (i0 := 1030) C (dd_X8_init.at 104 rfl) sh_k110 (lb_ rfl) (bi_ok (i := 1030) (n := 3090) rfl) (by decide) ?_
  show xc_ Z 16 4842 198 [some (.ref 98), some (.int 1)] [] (114, (hh_up (hh_up (hh_up (hh_up (hh_up (hh_up (hh_up (hh_up (hh_up (hh_up (hh_up (hh_up (hh_up (hh_up (hh_up (hh_up ρ 98 1 99) 98 5 100) 98 6 101) 98 7 102) 98 8 103) 98 9 104) 98 13 105) 98 14 106) 98 15 107) 98 20 108) 98 22 109) 98 23 110) 98 24 111) 98 25 112) 98 26 113) 98 29 114), (hh_sI (hh_sI (hh_sI (hh_sI (hh_sI (hh_sI (hh_sI (hh_sI (hh_sI (hh_sI (hh_sI (hh_sI (hh_sL h 98 4 1) 100 0 (-9)) 100 1 (-9)) 100 2 (-9)) 100 3 (-9)) 100 4 (-9)) 100 5 (-9)) 103 0 (-9)) 103 1 (-9)) 103 2 (-9)) 103 3 (-9)) 110 0 (-9)) 110 1030 (-9)))
  refine xc_iinc (v := 2) (lv' := [_, _]) C (dd_X8_init.at 105 rfl) (lb_ rfl) rfl (by rw [ic_1]; decide) rfl ?_
  refine xc_goto (tgt := 181) C (dd_X8_init.at 106 rfl) (by decide) ?_
  refine xc_iload_n C (dd_X8_init.at 95 rfl) rfl ?_
  refine xc_iconst C (dd_X8_init.at 96 rfl) ic_3 ?_
  refine xc_icmp_ge_f (tgt := 204) C (dd_X8_init.at 97 rfl) (by decide) (by decide) ?_
  refine xc_aload_n C (dd_X8_init.at 98 rfl) rfl (lb_ rfl) ?_
  refine xc_getR (j := 23) (r := 110) C ck_7 (lb_ rfl) lg_RX8_47 sh_k98 (lb_ rfl) rfl (lb_ rfl) rfl (by rw [hmc]; exact lb_ rfl) (by rw [hms]; exact lb_ rfl) (dd_X8_init.at 99 rfl) ?_
  refine xc_sipush C (dd_X8_init.at 100 rfl) sq_1030 ?_
  refine xc_iload_n C (dd_X8_init.at 101 rfl) rfl ?_
  refine xc_imul (v := 2060) C (dd_X8_init.at 102 rfl) (by decide) ?_
  refine xc_bipush C (dd_X8_init.at 103 rfl) bq_m9 ?_
  refine xc_iastore (i0 := 2060) C (dd_X8_init.at 104 rfl) sh_k110 (lb_ rfl) (bi_ok (i := 2060) (n := 3090) rfl) (by decide) ?_
  show xc_ Z 16 4842 198 [some (.ref 98), some (.int 2)] [] (114, (hh_up (hh_up (hh_up (hh_up (hh_up (hh_up (hh_up (hh_up (hh_up (hh_up (hh_up (hh_up (hh_up (hh_up (hh_up (hh_up ρ 98 1 99) 98 5 100) 98 6 101) 98 7 102) 98 8 103) 98 9 104) 98 13 105) 98 14 106) 98 15 107) 98 20 108) 98 22 109) 98 23 110) 98 24 111) 98 25 112) 98 26 113) 98 29 114), (hh_sI (hh_sI (hh_sI (hh_sI (hh_sI (hh_sI (hh_sI (hh_sI (hh_sI (hh_sI (hh_sI (hh_sI (hh_sI (hh_sL h 98 4 1) 100 0 (-9)) 100 1 (-9)) 100 2 (-9)) 100 3 (-9)) 100 4 (-9)) 100 5 (-9)) 103 0 (-9)) 103 1 (-9)) 103 2 (-9)) 103 3 (-9)) 110 0 (-9)) 110 1030 (-9)) 110 2060 (-9)))
  refine xc_iinc (v := 3) (lv' := [_, _]) C (dd_X8_init.at 105 rfl) (lb_ rfl) rfl (by rw [ic_1]; decide) rfl ?_
  refine xc_goto (tgt := 181) C (dd_X8_init.at 106 rfl) (by decide) ?_
  refine xc_iload_n C (dd_X8_init.at 95 rfl) rfl ?_
  refine xc_iconst C (dd_X8_init.at 96 rfl) ic_3 ?_
  refine xc_icmp_ge_t (tgt := 204) C (dd_X8_init.at 97 rfl) (by decide) (by decide) ?_
  exact xc_return C kc Q (lb_ rfl) (lb_ rfl) (dd_X8_init.at 107 rfl) rfl
