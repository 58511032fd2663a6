theorem dX2_lengthFrom_7 : decode cX2_lengthFrom 7 = .ok (.invokestatic 21, 3) := by decide +kernel
theorem dX2_lengthFrom_10 : decode cX2_lengthFrom 10 = .ok (.ifCond .ne 5, 3) := by decide +kernel
theorem dX2_lengthFrom_13 : decode cX2_lengthFrom 13 = .ok (.iconst 0, 1) := by decide +kernel
theorem dX2_lengthFrom_14 : decode cX2_lengthFrom 14 = .ok (.ireturn, 1) := by decide +kernel
theorem dX2_lengthFrom_15 : decode cX2_lengthFrom 15 = .ok (.aload_n 1, 1) := by decide +kernel
theorem dX2_lengthFrom_16 : decode cX2_lengthFrom 16 = .ok (.iload_n 3, 1) := by decide +kernel
theorem dX2_lengthFrom_17 : decode cX2_lengthFrom 17 = .ok (.invokevirtual 25, 3) := by decide +kernel
theorem dX2_lengthFrom_20 : decode cX2_lengthFrom 20 = .ok (.lstore 4, 2) := by decide +kernel
theorem dX2_lengthFrom_22 : decode cX2_lengthFrom 22 = .ok (.iconst 0, 1) := by decide +kernel
theorem dX2_lengthFrom_23 : decode cX2_lengthFrom 23 = .ok (.istore 6, 2) := by decide +kernel
theorem dX2_lengthFrom_25 : decode cX2_lengthFrom 25 = .ok (.iload 6, 2) := by decide +kernel
theorem dX2_lengthFrom_27 : decode cX2_lengthFrom 27 = .ok (.bipush 60, 2) := by decide +kernel
theorem dX2_lengthFrom_29 : decode cX2_lengthFrom 29 = .ok (.if_icmp .ge 40, 3) := by decide +kernel
theorem dX2_lengthFrom_32 : decode cX2_lengthFrom 32 = .ok (.aload_n 0, 1) := by decide +kernel
theorem dX2_lengthFrom_33 : decode cX2_lengthFrom 33 = .ok (.getfield 9, 3) := by decide +kernel
theorem dX2_lengthFrom_36 : decode cX2_lengthFrom 36 = .ok (.iload 6, 2) := by decide +kernel
theorem dX2_lengthFrom_38 : decode cX2_lengthFrom 38 = .ok (.lload 4, 2) := by decide +kernel
theorem dX2_lengthFrom_40 : decode cX2_lengthFrom 40 = .ok (.lastore, 1) := by decide +kernel
theorem dX2_lengthFrom_41 : decode cX2_lengthFrom 41 = .ok (.lload 4, 2) := by decide +kernel
theorem dX2_lengthFrom_43 : decode cX2_lengthFrom 43 = .ok (.iload_n 2, 1) := by decide +kernel
theorem dX2_lengthFrom_44 : decode cX2_lengthFrom 44 = .ok (.invokestatic 29, 3) := by decide +kernel
theorem dX2_lengthFrom_47 : decode cX2_lengthFrom 47 = .ok (.ifCond .eq 8, 3) := by decide +kernel
theorem dX2_lengthFrom_50 : decode cX2_lengthFrom 50 = .ok (.iload 6, 2) := by decide +kernel
theorem dX2_lengthFrom_52 : decode cX2_lengthFrom 52 = .ok (.iconst 1, 1) := by decide +kernel
theorem dX2_lengthFrom_53 : decode cX2_lengthFrom 53 = .ok (.iadd, 1) := by decide +kernel
theorem dX2_lengthFrom_54 : decode cX2_lengthFrom 54 = .ok (.ireturn, 1) := by decide +kernel
theorem dX2_lengthFrom_55 : decode cX2_lengthFrom 55 = .ok (.aload_n 1, 1) := by decide +kernel
theorem dX2_lengthFrom_56 : decode cX2_lengthFrom 56 = .ok (.lload 4, 2) := by decide +kernel
theorem dX2_lengthFrom_58 : decode cX2_lengthFrom 58 = .ok (.invokevirtual 33, 3) := by decide +kernel
theorem dX2_lengthFrom_61 : decode cX2_lengthFrom 61 = .ok (.lstore 4, 2) := by decide +kernel
theorem dX2_lengthFrom_63 : decode cX2_lengthFrom 63 = .ok (.iinc 6 1, 3) := by decide +kernel
theorem dX2_lengthFrom_66 : decode cX2_lengthFrom 66 = .ok (.goto (-41), 3) := by decide +kernel
theorem dX2_lengthFrom_69 : decode cX2_lengthFrom 69 = .ok (.iconst 0, 1) := by decide +kernel
theorem dX2_lengthFrom_70 : decode cX2_lengthFrom 70 = .ok (.ireturn, 1) := by decide +kernel
set_option maxRecDepth 20000 in
theorem ggX2_variableAt_X1_nextOf : GoodIn wsX2_variableAt wsX1_nextOf := goodIn_r _ [6, 7, 8, 16, 17, 18, 19, 20, 21, 22, 23, 24, 25] (by decide +kernel) (by decide +kernel)
set_option maxRecDepth 20000 in
theorem gX2_variableAt_X1_nextOf : GoodIn wsX2_variableAt (wsV RX2 37 RX1 yX1_nextOf wsX1_nextOf) := goodIn_app (goodIn_of _ (by decide +kernel)) ggX2_variableAt_X1_nextOf
set_option maxRecDepth 20000 in
theorem ggX2_variableAt_X3_least : GoodIn wsX2_variableAt wsX3_least := goodIn_r _ [11, 12, 13, 10, 14] (by decide +kernel) (by decide +kernel)
set_option maxRecDepth 20000 in
theorem gX2_variableAt_X3_least_n40 : GoodIn wsX2_variableAt (wsX3_least) := ggX2_variableAt_X3_least
theorem dX2_variableAt_0 : decode cX2_variableAt 0 = .ok (.iload_n 2, 1) := by decide +kernel
theorem dX2_variableAt_1 : decode cX2_variableAt 1 = .ok (.istore 5, 2) := by decide +kernel
theorem dX2_variableAt_3 : decode cX2_variableAt 3 = .ok (.iconst 1, 1) := by decide +kernel
theorem dX2_variableAt_4 : decode cX2_variableAt 4 = .ok (.istore 6, 2) := by decide +kernel
theorem dX2_variableAt_6 : decode cX2_variableAt 6 = .ok (.iload 6, 2) := by decide +kernel
theorem dX2_variableAt_8 : decode cX2_variableAt 8 = .ok (.iload 4, 2) := by decide +kernel
theorem dX2_variableAt_10 : decode cX2_variableAt 10 = .ok (.if_icmp .gt 38, 3) := by decide +kernel
theorem dX2_variableAt_13 : decode cX2_variableAt 13 = .ok (.iload 5, 2) := by decide +kernel
theorem dX2_variableAt_15 : decode cX2_variableAt 15 = .ok (.iconst (-1), 1) := by decide +kernel
theorem dX2_variableAt_16 : decode cX2_variableAt 16 = .ok (.if_icmp .eq 32, 3) := by decide +kernel
theorem dX2_variableAt_19 : decode cX2_variableAt 19 = .ok (.aload_n 1, 1) := by decide +kernel
theorem dX2_variableAt_20 : decode cX2_variableAt 20 = .ok (.iload 5, 2) := by decide +kernel
theorem dX2_variableAt_22 : decode cX2_variableAt 22 = .ok (.invokevirtual 37, 3) := by decide +kernel
theorem dX2_variableAt_25 : decode cX2_variableAt 25 = .ok (.aload_n 0, 1) := by decide +kernel
theorem dX2_variableAt_26 : decode cX2_variableAt 26 = .ok (.getfield 9, 3) := by decide +kernel
theorem dX2_variableAt_29 : decode cX2_variableAt 29 = .ok (.iload_n 3, 1) := by decide +kernel
theorem dX2_variableAt_30 : decode cX2_variableAt 30 = .ok (.iconst 1, 1) := by decide +kernel
theorem dX2_variableAt_31 : decode cX2_variableAt 31 = .ok (.isub, 1) := by decide +kernel
theorem dX2_variableAt_32 : decode cX2_variableAt 32 = .ok (.iload 6, 2) := by decide +kernel
theorem dX2_variableAt_34 : decode cX2_variableAt 34 = .ok (.isub, 1) := by decide +kernel
theorem dX2_variableAt_35 : decode cX2_variableAt 35 = .ok (.laload, 1) := by decide +kernel
theorem dX2_variableAt_36 : decode cX2_variableAt 36 = .ok (.land, 1) := by decide +kernel
theorem dX2_variableAt_37 : decode cX2_variableAt 37 = .ok (.invokestatic 40, 3) := by decide +kernel
theorem dX2_variableAt_40 : decode cX2_variableAt 40 = .ok (.istore 5, 2) := by decide +kernel
theorem dX2_variableAt_42 : decode cX2_variableAt 42 = .ok (.iinc 6 1, 3) := by decide +kernel
theorem dX2_variableAt_45 : decode cX2_variableAt 45 = .ok (.goto (-39), 3) := by decide +kernel
theorem dX2_variableAt_48 : decode cX2_variableAt 48 = .ok (.iload 5, 2) := by decide +kernel
theorem dX2_variableAt_50 : decode cX2_variableAt 50 = .ok (.ireturn, 1) := by decide +kernel
set_option maxRecDepth 20000 in
theorem ggX3_init_X1_init : GoodIn wsX3_init wsX1_init := goodIn_r _ [19, 20, 2, 3, 21, 22, 23, 24, 25, 26, 27, 28, 29, 30, 31, 32, 42, 43, 44, 45, 46, 47, 48, 49, 50, 51] (by decide +kernel) (by decide +kernel)
set_option maxRecDepth 20000 in
theorem gX3_init_X1_init_n9 : GoodIn wsX3_init (wsX1_init) := ggX3_init_X1_init
set_option maxRecDepth 20000 in
theorem ggX3_init_X0_init : GoodIn wsX3_init wsX0_init := goodIn_r _ [34, 35, 2, 3, 23, 36, 37, 57, 58] (by decide +kernel) (by decide +kernel)
set_option maxRecDepth 20000 in
theorem gX3_init_X0_init_n18 : GoodIn wsX3_init (wsX0_init) := ggX3_init_X0_init
set_option maxRecDepth 20000 in
theorem ggX3_init_X2_init : GoodIn wsX3_init wsX2_init := goodIn_r _ [39, 40, 2, 3, 27, 41, 59] (by decide +kernel) (by decide +kernel)
set_option maxRecDepth 20000 in
theorem gX3_init_X2_init_n25 : GoodIn wsX3_init (wsX2_init) := ggX3_init_X2_init
theorem dX3_init_0 : decode cX3_init 0 = .ok (.aload_n 0, 1) := by decide +kernel
theorem dX3_init_1 : decode cX3_init 1 = .ok (.invokespecial 1, 3) := by decide +kernel
theorem dX3_init_4 : decode cX3_init 4 = .ok (.aload_n 0, 1) := by decide +kernel
theorem dX3_init_5 : decode cX3_init 5 = .ok (.new 7, 3) := by decide +kernel
theorem dX3_init_8 : decode cX3_init 8 = .ok (.dup, 1) := by decide +kernel
theorem dX3_init_9 : decode cX3_init 9 = .ok (.invokespecial 9, 3) := by decide +kernel
theorem dX3_init_12 : decode cX3_init 12 = .ok (.putfield 10, 3) := by decide +kernel
theorem dX3_init_15 : decode cX3_init 15 = .ok (.aload_n 0, 1) := by decide +kernel
theorem dX3_init_16 : decode cX3_init 16 = .ok (.new 16, 3) := by decide +kernel
theorem dX3_init_19 : decode cX3_init 19 = .ok (.dup, 1) := by decide +kernel
theorem dX3_init_20 : decode cX3_init 20 = .ok (.invokespecial 18, 3) := by decide +kernel
theorem dX3_init_23 : decode cX3_init 23 = .ok (.putfield 19, 3) := by decide +kernel
theorem dX3_init_26 : decode cX3_init 26 = .ok (.aload_n 0, 1) := by decide +kernel
theorem dX3_init_27 : decode cX3_init 27 = .ok (.new 23, 3) := by decide +kernel
theorem dX3_init_30 : decode cX3_init 30 = .ok (.dup, 1) := by decide +kernel
theorem dX3_init_31 : decode cX3_init 31 = .ok (.invokespecial 25, 3) := by decide +kernel
theorem dX3_init_34 : decode cX3_init 34 = .ok (.putfield 26, 3) := by decide +kernel
theorem dX3_init_37 : decode cX3_init 37 = .ok (.aload_n 0, 1) := by decide +kernel
theorem dX3_init_38 : decode cX3_init 38 = .ok (.iconst 0, 1) := by decide +kernel
theorem dX3_init_39 : decode cX3_init 39 = .ok (.putfield 30, 3) := by decide +kernel
theorem dX3_init_42 : decode cX3_init 42 = .ok (.aload_n 0, 1) := by decide +kernel
theorem dX3_init_43 : decode cX3_init 43 = .ok (.bipush 20, 2) := by decide +kernel
theorem dX3_init_45 : decode cX3_init 45 = .ok (.anewarray 7, 3) := by decide +kernel
theorem dX3_init_48 : decode cX3_init 48 = .ok (.putfield 34, 3) := by decide +kernel
theorem dX3_init_51 : decode cX3_init 51 = .ok (.iconst 0, 1) := by decide +kernel
theorem dX3_init_52 : decode cX3_init 52 = .ok (.istore_n 1, 1) := by decide +kernel
theorem dX3_init_53 : decode cX3_init 53 = .ok (.iload_n 1, 1) := by decide +kernel
theorem dX3_init_54 : decode cX3_init 54 = .ok (.bipush 20, 2) := by decide +kernel
theorem dX3_init_56 : decode cX3_init 56 = .ok (.if_icmp .ge 22, 3) := by decide +kernel
theorem dX3_init_59 : decode cX3_init 59 = .ok (.aload_n 0, 1) := by decide +kernel
theorem dX3_init_60 : decode cX3_init 60 = .ok (.getfield 34, 3) := by decide +kernel
theorem dX3_init_63 : decode cX3_init 63 = .ok (.iload_n 1, 1) := by decide +kernel
theorem dX3_init_64 : decode cX3_init 64 = .ok (.new 7, 3) := by decide +kernel
theorem dX3_init_67 : decode cX3_init 67 = .ok (.dup, 1) := by decide +kernel
theorem dX3_init_68 : decode cX3_init 68 = .ok (.invokespecial 9, 3) := by decide +kernel
theorem dX3_init_71 : decode cX3_init 71 = .ok (.aastore, 1) := by decide +kernel
theorem dX3_init_72 : decode cX3_init 72 = .ok (.iinc 1 1, 3) := by decide +kernel
theorem dX3_init_75 : decode cX3_init 75 = .ok (.goto (-22), 3) := by decide +kernel
theorem dX3_init_78 : decode cX3_init 78 = .ok (.return_, 1) := by decide +kernel
theorem dX3_variable_0 : decode cX3_variable 0 = .ok (.iload_n 1, 1) := by decide +kernel
theorem dX3_variable_1 : decode cX3_variable 1 = .ok (.invokestatic 38, 3) := by decide +kernel
theorem dX3_variable_4 : decode cX3_variable 4 = .ok (.aload_n 0, 1) := by decide +kernel
theorem dX3_variable_5 : decode cX3_variable 5 = .ok (.getfield 10, 3) := by decide +kernel
theorem dX3_variable_8 : decode cX3_variable 8 = .ok (.iload_n 1, 1) := by decide +kernel
theorem dX3_variable_9 : decode cX3_variable 9 = .ok (.invokevirtual 42, 3) := by decide +kernel
theorem dX3_variable_12 : decode cX3_variable 12 = .ok (.ireturn, 1) := by decide +kernel
theorem dX3_atom_0 : decode cX3_atom 0 = .ok (.iload_n 1, 1) := by decide +kernel
theorem dX3_atom_1 : decode cX3_atom 1 = .ok (.invokestatic 38, 3) := by decide +kernel
theorem dX3_atom_4 : decode cX3_atom 4 = .ok (.aload_n 0, 1) := by decide +kernel
theorem dX3_atom_5 : decode cX3_atom 5 = .ok (.getfield 10, 3) := by decide +kernel
theorem dX3_atom_8 : decode cX3_atom 8 = .ok (.iload_n 1, 1) := by decide +kernel
theorem dX3_atom_9 : decode cX3_atom 9 = .ok (.invokevirtual 46, 3) := by decide +kernel
theorem dX3_atom_12 : decode cX3_atom 12 = .ok (.ireturn, 1) := by decide +kernel
theorem dX3_has_0 : decode cX3_has 0 = .ok (.aload_n 0, 1) := by decide +kernel
theorem dX3_has_1 : decode cX3_has 1 = .ok (.iload_n 1, 1) := by decide +kernel
theorem dX3_has_2 : decode cX3_has 2 = .ok (.invokevirtual 49, 3) := by decide +kernel
theorem dX3_has_5 : decode cX3_has 5 = .ok (.aload_n 0, 1) := by decide +kernel
theorem dX3_has_6 : decode cX3_has 6 = .ok (.iload_n 2, 1) := by decide +kernel
theorem dX3_has_7 : decode cX3_has 7 = .ok (.invokevirtual 52, 3) := by decide +kernel
theorem dX3_has_10 : decode cX3_has 10 = .ok (.aload_n 0, 1) := by decide +kernel
theorem dX3_has_11 : decode cX3_has 11 = .ok (.getfield 10, 3) := by decide +kernel
theorem dX3_has_14 : decode cX3_has 14 = .ok (.iload_n 1, 1) := by decide +kernel
theorem dX3_has_15 : decode cX3_has 15 = .ok (.iload_n 2, 1) := by decide +kernel
theorem dX3_has_16 : decode cX3_has 16 = .ok (.invokevirtual 55, 3) := by decide +kernel
theorem dX3_has_19 : decode cX3_has 19 = .ok (.ireturn, 1) := by decide +kernel
theorem dX3_includes_0 : decode cX3_includes 0 = .ok (.aload_n 0, 1) := by decide +kernel
theorem dX3_includes_1 : decode cX3_includes 1 = .ok (.iload_n 1, 1) := by decide +kernel
theorem dX3_includes_2 : decode cX3_includes 2 = .ok (.invokevirtual 49, 3) := by decide +kernel
theorem dX3_includes_5 : decode cX3_includes 5 = .ok (.aload_n 0, 1) := by decide +kernel
theorem dX3_includes_6 : decode cX3_includes 6 = .ok (.iload_n 2, 1) := by decide +kernel
theorem dX3_includes_7 : decode cX3_includes 7 = .ok (.invokevirtual 49, 3) := by decide +kernel
theorem dX3_includes_10 : decode cX3_includes 10 = .ok (.aload_n 0, 1) := by decide +kernel
theorem dX3_includes_11 : decode cX3_includes 11 = .ok (.getfield 10, 3) := by decide +kernel
theorem dX3_includes_14 : decode cX3_includes 14 = .ok (.iload_n 1, 1) := by decide +kernel
theorem dX3_includes_15 : decode cX3_includes 15 = .ok (.iload_n 2, 1) := by decide +kernel
theorem dX3_includes_16 : decode cX3_includes 16 = .ok (.invokevirtual 59, 3) := by decide +kernel
theorem dX3_includes_19 : decode cX3_includes 19 = .ok (.ireturn, 1) := by decide +kernel
theorem dX3_one_0 : decode cX3_one 0 = .ok (.aload_n 0, 1) := by decide +kernel
theorem dX3_one_1 : decode cX3_one 1 = .ok (.iload_n 1, 1) := by decide +kernel
theorem dX3_one_2 : decode cX3_one 2 = .ok (.invokevirtual 49, 3) := by decide +kernel
theorem dX3_one_5 : decode cX3_one 5 = .ok (.aload_n 0, 1) := by decide +kernel
theorem dX3_one_6 : decode cX3_one 6 = .ok (.iload_n 2, 1) := by decide +kernel
theorem dX3_one_7 : decode cX3_one 7 = .ok (.invokevirtual 49, 3) := by decide +kernel
theorem dX3_one_10 : decode cX3_one 10 = .ok (.aload_n 0, 1) := by decide +kernel
theorem dX3_one_11 : decode cX3_one 11 = .ok (.getfield 10, 3) := by decide +kernel
theorem dX3_one_14 : decode cX3_one 14 = .ok (.iload_n 1, 1) := by decide +kernel
theorem dX3_one_15 : decode cX3_one 15 = .ok (.iload_n 2, 1) := by decide +kernel
theorem dX3_one_16 : decode cX3_one 16 = .ok (.invokevirtual 62, 3) := by decide +kernel
theorem dX3_one_19 : decode cX3_one 19 = .ok (.ireturn, 1) := by decide +kernel
set_option maxRecDepth 20000 in
theorem ggX3_shrink_X1_joinRings : GoodIn wsX3_shrink wsX1_joinRings := goodIn_r _ [6, 7, 8, 9, 10, 11, 5, 12, 13, 14, 15, 16, 17, 18, 19, 20, 21, 22, 23, 24, 25, 26, 27, 28, 29, 30, 31, 32, 33, 34, 35, 36, 37, 38, 39, 40, 41, 42, 43, 44, 45, 46, 47, 48, 49, 50, 51, 57, 58, 59, 60, 61, 62, 63, 64, 65, 66] (by decide +kernel) (by decide +kernel)
set_option maxRecDepth 20000 in
theorem gX3_shrink_X1_joinRings : GoodIn wsX3_shrink (wsV RX3 65 RX1 yX1_joinRings wsX1_joinRings) := goodIn_app (goodIn_of _ (by decide +kernel)) ggX3_shrink_X1_joinRings
theorem dX3_shrink_0 : decode cX3_shrink 0 = .ok (.aload_n 0, 1) := by decide +kernel
theorem dX3_shrink_1 : decode cX3_shrink 1 = .ok (.getfield 10, 3) := by decide +kernel
theorem dX3_shrink_4 : decode cX3_shrink 4 = .ok (.invokevirtual 65, 3) := by decide +kernel
theorem dX3_shrink_7 : decode cX3_shrink 7 = .ok (.ireturn, 1) := by decide +kernel
theorem dX3_copy_0 : decode cX3_copy 0 = .ok (.aload_n 0, 1) := by decide +kernel
theorem dX3_copy_1 : decode cX3_copy 1 = .ok (.iload_n 1, 1) := by decide +kernel
theorem dX3_copy_2 : decode cX3_copy 2 = .ok (.invokevirtual 49, 3) := by decide +kernel
theorem dX3_copy_5 : decode cX3_copy 5 = .ok (.iload_n 2, 1) := by decide +kernel
theorem dX3_copy_6 : decode cX3_copy 6 = .ok (.invokestatic 38, 3) := by decide +kernel
theorem dX3_copy_9 : decode cX3_copy 9 = .ok (.aload_n 0, 1) := by decide +kernel
theorem dX3_copy_10 : decode cX3_copy 10 = .ok (.getfield 19, 3) := by decide +kernel
theorem dX3_copy_13 : decode cX3_copy 13 = .ok (.aload_n 0, 1) := by decide +kernel
theorem dX3_copy_14 : decode cX3_copy 14 = .ok (.getfield 10, 3) := by decide +kernel
theorem dX3_copy_17 : decode cX3_copy 17 = .ok (.iload_n 1, 1) := by decide +kernel
theorem dX3_copy_18 : decode cX3_copy 18 = .ok (.iload_n 2, 1) := by decide +kernel
theorem dX3_copy_19 : decode cX3_copy 19 = .ok (.invokevirtual 69, 3) := by decide +kernel
theorem dX3_copy_22 : decode cX3_copy 22 = .ok (.ireturn, 1) := by decide +kernel
set_option maxRecDepth 20000 in
theorem ggX3_mark_X1_takeFrom : GoodIn wsX3_mark wsX1_takeFrom := goodIn_r _ [8, 9, 10, 11, 12, 13, 14, 15, 16, 17, 18, 19, 20, 21, 22, 28, 29, 30, 31, 32, 33, 34, 35, 36, 37] (by decide +kernel) (by decide +kernel)
set_option maxRecDepth 20000 in
theorem gX3_mark_X1_takeFrom : GoodIn wsX3_mark (wsV RX3 73 RX1 yX1_takeFrom wsX1_takeFrom) := goodIn_app (goodIn_of _ (by decide +kernel)) ggX3_mark_X1_takeFrom
theorem dX3_mark_0 : decode cX3_mark 0 = .ok (.aload_n 0, 1) := by decide +kernel
theorem dX3_mark_1 : decode cX3_mark 1 = .ok (.getfield 30, 3) := by decide +kernel
theorem dX3_mark_4 : decode cX3_mark 4 = .ok (.bipush 20, 2) := by decide +kernel
theorem dX3_mark_6 : decode cX3_mark 6 = .ok (.if_icmp .lt 5, 3) := by decide +kernel
theorem dX3_mark_9 : decode cX3_mark 9 = .ok (.iconst (-1), 1) := by decide +kernel
theorem dX3_mark_10 : decode cX3_mark 10 = .ok (.ireturn, 1) := by decide +kernel
theorem dX3_mark_11 : decode cX3_mark 11 = .ok (.aload_n 0, 1) := by decide +kernel
theorem dX3_mark_12 : decode cX3_mark 12 = .ok (.getfield 34, 3) := by decide +kernel
theorem dX3_mark_15 : decode cX3_mark 15 = .ok (.aload_n 0, 1) := by decide +kernel
theorem dX3_mark_16 : decode cX3_mark 16 = .ok (.getfield 30, 3) := by decide +kernel
theorem dX3_mark_19 : decode cX3_mark 19 = .ok (.aaload, 1) := by decide +kernel
theorem dX3_mark_20 : decode cX3_mark 20 = .ok (.aload_n 0, 1) := by decide +kernel
theorem dX3_mark_21 : decode cX3_mark 21 = .ok (.getfield 10, 3) := by decide +kernel
theorem dX3_mark_24 : decode cX3_mark 24 = .ok (.invokevirtual 73, 3) := by decide +kernel
theorem dX3_mark_27 : decode cX3_mark 27 = .ok (.aload_n 0, 1) := by decide +kernel
theorem dX3_mark_28 : decode cX3_mark 28 = .ok (.dup, 1) := by decide +kernel
theorem dX3_mark_29 : decode cX3_mark 29 = .ok (.getfield 30, 3) := by decide +kernel
theorem dX3_mark_32 : decode cX3_mark 32 = .ok (.iconst 1, 1) := by decide +kernel
theorem dX3_mark_33 : decode cX3_mark 33 = .ok (.iadd, 1) := by decide +kernel
theorem dX3_mark_34 : decode cX3_mark 34 = .ok (.putfield 30, 3) := by decide +kernel
theorem dX3_mark_37 : decode cX3_mark 37 = .ok (.aload_n 0, 1) := by decide +kernel
theorem dX3_mark_38 : decode cX3_mark 38 = .ok (.getfield 30, 3) := by decide +kernel
theorem dX3_mark_41 : decode cX3_mark 41 = .ok (.ireturn, 1) := by decide +kernel
theorem dX3_back_0 : decode cX3_back 0 = .ok (.aload_n 0, 1) := by decide +kernel
theorem dX3_back_1 : decode cX3_back 1 = .ok (.getfield 30, 3) := by decide +kernel
theorem dX3_back_4 : decode cX3_back 4 = .ok (.ifCond .gt 13, 3) := by decide +kernel
theorem dX3_back_7 : decode cX3_back 7 = .ok (.new 77, 3) := by decide +kernel
theorem dX3_back_10 : decode cX3_back 10 = .ok (.dup, 1) := by decide +kernel
theorem dX3_back_11 : decode cX3_back 11 = .ok (.ldc 79, 2) := by decide +kernel
theorem dX3_back_13 : decode cX3_back 13 = .ok (.invokespecial 81, 3) := by decide +kernel
theorem dX3_back_16 : decode cX3_back 16 = .ok (.athrow, 1) := by decide +kernel
theorem dX3_back_17 : decode cX3_back 17 = .ok (.aload_n 0, 1) := by decide +kernel
theorem dX3_back_18 : decode cX3_back 18 = .ok (.getfield 30, 3) := by decide +kernel
theorem dX3_back_21 : decode cX3_back 21 = .ok (.istore_n 1, 1) := by decide +kernel
theorem dX3_back_22 : decode cX3_back 22 = .ok (.aload_n 0, 1) := by decide +kernel
theorem dX3_back_23 : decode cX3_back 23 = .ok (.dup, 1) := by decide +kernel
theorem dX3_back_24 : decode cX3_back 24 = .ok (.getfield 30, 3) := by decide +kernel
theorem dX3_back_27 : decode cX3_back 27 = .ok (.iconst 1, 1) := by decide +kernel
theorem dX3_back_28 : decode cX3_back 28 = .ok (.isub, 1) := by decide +kernel
theorem dX3_back_29 : decode cX3_back 29 = .ok (.putfield 30, 3) := by decide +kernel
theorem dX3_back_32 : decode cX3_back 32 = .ok (.aload_n 0, 1) := by decide +kernel
theorem dX3_back_33 : decode cX3_back 33 = .ok (.getfield 10, 3) := by decide +kernel
theorem dX3_back_36 : decode cX3_back 36 = .ok (.aload_n 0, 1) := by decide +kernel
theorem dX3_back_37 : decode cX3_back 37 = .ok (.getfield 34, 3) := by decide +kernel
theorem dX3_back_40 : decode cX3_back 40 = .ok (.aload_n 0, 1) := by decide +kernel
theorem dX3_back_41 : decode cX3_back 41 = .ok (.getfield 30, 3) := by decide +kernel
theorem dX3_back_44 : decode cX3_back 44 = .ok (.aaload, 1) := by decide +kernel
theorem dX3_back_45 : decode cX3_back 45 = .ok (.invokevirtual 73, 3) := by decide +kernel
theorem dX3_back_48 : decode cX3_back 48 = .ok (.iload_n 1, 1) := by decide +kernel
theorem dX3_back_49 : decode cX3_back 49 = .ok (.ireturn, 1) := by decide +kernel
theorem dX3_set_0 : decode cX3_set 0 = .ok (.aload_n 0, 1) := by decide +kernel
theorem dX3_set_1 : decode cX3_set 1 = .ok (.iload_n 1, 1) := by decide +kernel
theorem dX3_set_2 : decode cX3_set 2 = .ok (.invokevirtual 49, 3) := by decide +kernel
theorem dX3_set_5 : decode cX3_set 5 = .ok (.aload_n 0, 1) := by decide +kernel
theorem dX3_set_6 : decode cX3_set 6 = .ok (.getfield 10, 3) := by decide +kernel
theorem dX3_set_9 : decode cX3_set 9 = .ok (.getfield 84, 3) := by decide +kernel
theorem dX3_set_12 : decode cX3_set 12 = .ok (.iload_n 1, 1) := by decide +kernel
theorem dX3_set_13 : decode cX3_set 13 = .ok (.iaload, 1) := by decide +kernel
theorem dX3_set_14 : decode cX3_set 14 = .ok (.ireturn, 1) := by decide +kernel
theorem dX3_seen_0 : decode cX3_seen 0 = .ok (.aload_n 0, 1) := by decide +kernel
theorem dX3_seen_1 : decode cX3_seen 1 = .ok (.iload_n 1, 1) := by decide +kernel
theorem dX3_seen_2 : decode cX3_seen 2 = .ok (.invokevirtual 49, 3) := by decide +kernel
theorem dX3_seen_5 : decode cX3_seen 5 = .ok (.aload_n 0, 1) := by decide +kernel
theorem dX3_seen_6 : decode cX3_seen 6 = .ok (.getfield 10, 3) := by decide +kernel
theorem dX3_seen_9 : decode cX3_seen 9 = .ok (.getfield 84, 3) := by decide +kernel
theorem dX3_seen_12 : decode cX3_seen 12 = .ok (.iload_n 1, 1) := by decide +kernel
theorem dX3_seen_13 : decode cX3_seen 13 = .ok (.iaload, 1) := by decide +kernel
theorem dX3_seen_14 : decode cX3_seen 14 = .ok (.aload_n 0, 1) := by decide +kernel
theorem dX3_seen_15 : decode cX3_seen 15 = .ok (.getfield 10, 3) := by decide +kernel
theorem dX3_seen_18 : decode cX3_seen 18 = .ok (.iload_n 2, 1) := by decide +kernel
theorem dX3_seen_19 : decode cX3_seen 19 = .ok (.invokevirtual 88, 3) := by decide +kernel
theorem dX3_seen_22 : decode cX3_seen 22 = .ok (.iand, 1) := by decide +kernel
theorem dX3_seen_23 : decode cX3_seen 23 = .ok (.ireturn, 1) := by decide +kernel
theorem dX3_reach_0 : decode cX3_reach 0 = .ok (.aload_n 0, 1) := by decide +kernel
theorem dX3_reach_1 : decode cX3_reach 1 = .ok (.iload_n 1, 1) := by decide +kernel
theorem dX3_reach_2 : decode cX3_reach 2 = .ok (.invokevirtual 49, 3) := by decide +kernel
theorem dX3_reach_5 : decode cX3_reach 5 = .ok (.aload_n 0, 1) := by decide +kernel
theorem dX3_reach_6 : decode cX3_reach 6 = .ok (.getfield 10, 3) := by decide +kernel
theorem dX3_reach_9 : decode cX3_reach 9 = .ok (.aload_n 0, 1) := by decide +kernel
theorem dX3_reach_10 : decode cX3_reach 10 = .ok (.getfield 10, 3) := by decide +kernel
theorem dX3_reach_13 : decode cX3_reach 13 = .ok (.getfield 91, 3) := by decide +kernel
theorem dX3_reach_16 : decode cX3_reach 16 = .ok (.iload_n 1, 1) := by decide +kernel
theorem dX3_reach_17 : decode cX3_reach 17 = .ok (.laload, 1) := by decide +kernel
theorem dX3_reach_18 : decode cX3_reach 18 = .ok (.invokevirtual 95, 3) := by decide +kernel
theorem dX3_reach_21 : decode cX3_reach 21 = .ok (.lreturn, 1) := by decide +kernel
theorem dX3_of_0 : decode cX3_of 0 = .ok (.aload_n 0, 1) := by decide +kernel
theorem dX3_of_1 : decode cX3_of 1 = .ok (.iload_n 1, 1) := by decide +kernel
theorem dX3_of_2 : decode cX3_of 2 = .ok (.invokevirtual 49, 3) := by decide +kernel
theorem dX3_of_5 : decode cX3_of 5 = .ok (.iload_n 2, 1) := by decide +kernel
theorem dX3_of_6 : decode cX3_of 6 = .ok (.tableswitch 89 0 4 #[34, 44, 53, 62, 72], 34) := by decide +kernel
theorem dX3_of_40 : decode cX3_of 40 = .ok (.aload_n 0, 1) := by decide +kernel
theorem dX3_of_41 : decode cX3_of 41 = .ok (.getfield 10, 3) := by decide +kernel
theorem dX3_of_44 : decode cX3_of 44 = .ok (.getfield 99, 3) := by decide +kernel
theorem dX3_of_47 : decode cX3_of 47 = .ok (.iload_n 1, 1) := by decide +kernel
theorem dX3_of_48 : decode cX3_of 48 = .ok (.iaload, 1) := by decide +kernel
theorem dX3_of_49 : decode cX3_of 49 = .ok (.ireturn, 1) := by decide +kernel
theorem dX3_of_50 : decode cX3_of 50 = .ok (.aload_n 0, 1) := by decide +kernel
theorem dX3_of_51 : decode cX3_of 51 = .ok (.getfield 10, 3) := by decide +kernel
theorem dX3_of_54 : decode cX3_of 54 = .ok (.iload_n 1, 1) := by decide +kernel
theorem dX3_of_55 : decode cX3_of 55 = .ok (.invokevirtual 102, 3) := by decide +kernel
theorem dX3_of_58 : decode cX3_of 58 = .ok (.ireturn, 1) := by decide +kernel
theorem dX3_of_59 : decode cX3_of 59 = .ok (.aload_n 0, 1) := by decide +kernel
theorem dX3_of_60 : decode cX3_of 60 = .ok (.getfield 10, 3) := by decide +kernel
theorem dX3_of_63 : decode cX3_of 63 = .ok (.iload_n 1, 1) := by decide +kernel
theorem dX3_of_64 : decode cX3_of 64 = .ok (.invokevirtual 105, 3) := by decide +kernel
theorem dX3_of_67 : decode cX3_of 67 = .ok (.ireturn, 1) := by decide +kernel
theorem dX3_of_68 : decode cX3_of 68 = .ok (.aload_n 0, 1) := by decide +kernel
theorem dX3_of_69 : decode cX3_of 69 = .ok (.getfield 10, 3) := by decide +kernel
theorem dX3_of_72 : decode cX3_of 72 = .ok (.getfield 108, 3) := by decide +kernel
theorem dX3_of_75 : decode cX3_of 75 = .ok (.iload_n 1, 1) := by decide +kernel
theorem dX3_of_76 : decode cX3_of 76 = .ok (.iaload, 1) := by decide +kernel
theorem dX3_of_77 : decode cX3_of 77 = .ok (.ireturn, 1) := by decide +kernel
theorem dX3_of_78 : decode cX3_of 78 = .ok (.aload_n 0, 1) := by decide +kernel
theorem dX3_of_79 : decode cX3_of 79 = .ok (.getfield 10, 3) := by decide +kernel
theorem dX3_of_82 : decode cX3_of 82 = .ok (.aload_n 0, 1) := by decide +kernel
theorem dX3_of_83 : decode cX3_of 83 = .ok (.getfield 10, 3) := by decide +kernel
theorem dX3_of_86 : decode cX3_of 86 = .ok (.getfield 99, 3) := by decide +kernel
theorem dX3_of_89 : decode cX3_of 89 = .ok (.iload_n 1, 1) := by decide +kernel
theorem dX3_of_90 : decode cX3_of 90 = .ok (.iaload, 1) := by decide +kernel
theorem dX3_of_91 : decode cX3_of 91 = .ok (.invokevirtual 111, 3) := by decide +kernel
theorem dX3_of_94 : decode cX3_of 94 = .ok (.ireturn, 1) := by decide +kernel
theorem dX3_of_95 : decode cX3_of 95 = .ok (.iconst (-1), 1) := by decide +kernel
theorem dX3_of_96 : decode cX3_of 96 = .ok (.ireturn, 1) := by decide +kernel
theorem dX3_ofAtom_0 : decode cX3_ofAtom 0 = .ok (.aload_n 0, 1) := by decide +kernel
theorem dX3_ofAtom_1 : decode cX3_ofAtom 1 = .ok (.iload_n 1, 1) := by decide +kernel
theorem dX3_ofAtom_2 : decode cX3_ofAtom 2 = .ok (.invokevirtual 52, 3) := by decide +kernel
theorem dX3_ofAtom_5 : decode cX3_ofAtom 5 = .ok (.iload_n 2, 1) := by decide +kernel
theorem dX3_ofAtom_6 : decode cX3_ofAtom 6 = .ok (.tableswitch 54 0 2 #[26, 35, 45], 26) := by decide +kernel
theorem dX3_ofAtom_32 : decode cX3_ofAtom 32 = .ok (.aload_n 0, 1) := by decide +kernel
theorem dX3_ofAtom_33 : decode cX3_ofAtom 33 = .ok (.getfield 10, 3) := by decide +kernel
theorem dX3_ofAtom_36 : decode cX3_ofAtom 36 = .ok (.iload_n 1, 1) := by decide +kernel
theorem dX3_ofAtom_37 : decode cX3_ofAtom 37 = .ok (.invokevirtual 114, 3) := by decide +kernel
theorem dX3_ofAtom_40 : decode cX3_ofAtom 40 = .ok (.ireturn, 1) := by decide +kernel
theorem dX3_ofAtom_41 : decode cX3_ofAtom 41 = .ok (.aload_n 0, 1) := by decide +kernel
theorem dX3_ofAtom_42 : decode cX3_ofAtom 42 = .ok (.getfield 10, 3) := by decide +kernel
theorem dX3_ofAtom_45 : decode cX3_ofAtom 45 = .ok (.getfield 117, 3) := by decide +kernel
theorem dX3_ofAtom_48 : decode cX3_ofAtom 48 = .ok (.iload_n 1, 1) := by decide +kernel
theorem dX3_ofAtom_49 : decode cX3_ofAtom 49 = .ok (.iaload, 1) := by decide +kernel
theorem dX3_ofAtom_50 : decode cX3_ofAtom 50 = .ok (.ireturn, 1) := by decide +kernel
theorem dX3_ofAtom_51 : decode cX3_ofAtom 51 = .ok (.aload_n 0, 1) := by decide +kernel
theorem dX3_ofAtom_52 : decode cX3_ofAtom 52 = .ok (.getfield 10, 3) := by decide +kernel
theorem dX3_ofAtom_55 : decode cX3_ofAtom 55 = .ok (.iload_n 1, 1) := by decide +kernel
theorem dX3_ofAtom_56 : decode cX3_ofAtom 56 = .ok (.invokevirtual 120, 3) := by decide +kernel
theorem dX3_ofAtom_59 : decode cX3_ofAtom 59 = .ok (.ireturn, 1) := by decide +kernel
theorem dX3_ofAtom_60 : decode cX3_ofAtom 60 = .ok (.iconst (-1), 1) := by decide +kernel
theorem dX3_ofAtom_61 : decode cX3_ofAtom 61 = .ok (.ireturn, 1) := by decide +kernel
theorem dX3_way_0 : decode cX3_way 0 = .ok (.aload_n 0, 1) := by decide +kernel
theorem dX3_way_1 : decode cX3_way 1 = .ok (.iload_n 1, 1) := by decide +kernel
theorem dX3_way_2 : decode cX3_way 2 = .ok (.invokevirtual 49, 3) := by decide +kernel
theorem dX3_way_5 : decode cX3_way 5 = .ok (.aload_n 0, 1) := by decide +kernel
theorem dX3_way_6 : decode cX3_way 6 = .ok (.iload_n 2, 1) := by decide +kernel
theorem dX3_way_7 : decode cX3_way 7 = .ok (.invokevirtual 52, 3) := by decide +kernel
theorem dX3_way_10 : decode cX3_way 10 = .ok (.aload_n 0, 1) := by decide +kernel
theorem dX3_way_11 : decode cX3_way 11 = .ok (.getfield 26, 3) := by decide +kernel
theorem dX3_way_14 : decode cX3_way 14 = .ok (.aload_n 0, 1) := by decide +kernel
theorem dX3_way_15 : decode cX3_way 15 = .ok (.getfield 10, 3) := by decide +kernel
theorem dX3_way_18 : decode cX3_way 18 = .ok (.iload_n 1, 1) := by decide +kernel
theorem dX3_way_19 : decode cX3_way 19 = .ok (.iload_n 2, 1) := by decide +kernel
theorem dX3_way_20 : decode cX3_way 20 = .ok (.invokevirtual 123, 3) := by decide +kernel
theorem dX3_way_23 : decode cX3_way 23 = .ok (.istore 4, 2) := by decide +kernel
theorem dX3_way_25 : decode cX3_way 25 = .ok (.iload_n 3, 1) := by decide +kernel
theorem dX3_way_26 : decode cX3_way 26 = .ok (.iconst (-1), 1) := by decide +kernel
theorem dX3_way_27 : decode cX3_way 27 = .ok (.if_icmp .ne 6, 3) := by decide +kernel
theorem dX3_way_30 : decode cX3_way 30 = .ok (.iload 4, 2) := by decide +kernel
theorem dX3_way_32 : decode cX3_way 32 = .ok (.ireturn, 1) := by decide +kernel
theorem dX3_way_33 : decode cX3_way 33 = .ok (.iload_n 3, 1) := by decide +kernel
theorem dX3_way_34 : decode cX3_way 34 = .ok (.ifCond .lt 9, 3) := by decide +kernel
theorem dX3_way_37 : decode cX3_way 37 = .ok (.iload_n 3, 1) := by decide +kernel
theorem dX3_way_38 : decode cX3_way 38 = .ok (.iload 4, 2) := by decide +kernel
theorem dX3_way_40 : decode cX3_way 40 = .ok (.if_icmp .lt 5, 3) := by decide +kernel
theorem dX3_way_43 : decode cX3_way 43 = .ok (.iconst (-1), 1) := by decide +kernel
theorem dX3_way_44 : decode cX3_way 44 = .ok (.ireturn, 1) := by decide +kernel
theorem dX3_way_45 : decode cX3_way 45 = .ok (.aload_n 0, 1) := by decide +kernel
theorem dX3_way_46 : decode cX3_way 46 = .ok (.getfield 26, 3) := by decide +kernel
theorem dX3_way_49 : decode cX3_way 49 = .ok (.aload_n 0, 1) := by decide +kernel
theorem dX3_way_50 : decode cX3_way 50 = .ok (.getfield 10, 3) := by decide +kernel
theorem dX3_way_53 : decode cX3_way 53 = .ok (.iload_n 1, 1) := by decide +kernel
theorem dX3_way_54 : decode cX3_way 54 = .ok (.iload 4, 2) := by decide +kernel
theorem dX3_way_56 : decode cX3_way 56 = .ok (.iload_n 3, 1) := by decide +kernel
theorem dX3_way_57 : decode cX3_way 57 = .ok (.invokevirtual 126, 3) := by decide +kernel
theorem dX3_way_60 : decode cX3_way 60 = .ok (.ireturn, 1) := by decide +kernel
set_option maxRecDepth 20000 in
theorem ggX3_count_X1_nodes : GoodIn wsX3_count wsX1_nodes := goodIn_r _ [13, 14, 15, 57, 58, 59, 60, 61, 62, 63, 64, 65, 66] (by decide +kernel) (by decide +kernel)
set_option maxRecDepth 20000 in
theorem gX3_count_X1_nodes : GoodIn wsX3_count (wsV RX3 136 RX1 yX1_nodes wsX1_nodes) := goodIn_app (goodIn_of _ (by decide +kernel)) ggX3_count_X1_nodes
set_option maxRecDepth 20000 in
theorem ggX3_count_X1_rings : GoodIn wsX3_count wsX1_rings := goodIn_r _ [19, 14, 20, 21, 22, 12, 23, 24, 25, 26, 27, 28, 29, 30, 31, 57, 58, 59, 60, 61, 62, 63, 64, 65, 66] (by decide +kernel) (by decide +kernel)
set_option maxRecDepth 20000 in
theorem gX3_count_X1_rings : GoodIn wsX3_count (wsV RX3 139 RX1 yX1_rings wsX1_rings) := goodIn_app (goodIn_of _ (by decide +kernel)) ggX3_count_X1_rings
set_option maxRecDepth 20000 in
theorem ggX3_count_X3_bitsOfInts : GoodIn wsX3_count wsX3_bitsOfInts := goodIn_r _ [34, 35, 36, 37, 38, 39, 40, 41] (by decide +kernel) (by decide +kernel)
set_option maxRecDepth 20000 in
theorem gX3_count_X3_bitsOfInts : GoodIn wsX3_count (va_wsS RX3 145 yX3_bitsOfInts wsX3_bitsOfInts) := goodIn_app (goodIn_of _ (by decide +kernel)) ggX3_count_X3_bitsOfInts
set_option maxRecDepth 20000 in
theorem ggX3_count_X3_bitsOfLongs : GoodIn wsX3_count wsX3_bitsOfLongs := goodIn_r _ [44, 45, 46, 47, 48, 49, 50, 51] (by decide +kernel) (by decide +kernel)
set_option maxRecDepth 20000 in
theorem gX3_count_X3_bitsOfLongs : GoodIn wsX3_count (va_wsS RX3 152 yX3_bitsOfLongs wsX3_bitsOfLongs) := goodIn_app (goodIn_of _ (by decide +kernel)) ggX3_count_X3_bitsOfLongs
theorem dX3_count_0 : decode cX3_count 0 = .ok (.iload_n 1, 1) := by decide +kernel
theorem dX3_count_1 : decode cX3_count 1 = .ok (.tableswitch 162 0 8 #[51, 59, 67, 75, 83, 101, 119, 139, 144], 51) := by decide +kernel
theorem dX3_count_52 : decode cX3_count 52 = .ok (.aload_n 0, 1) := by decide +kernel
theorem dX3_count_53 : decode cX3_count 53 = .ok (.getfield 10, 3) := by decide +kernel
theorem dX3_count_56 : decode cX3_count 56 = .ok (.getfield 130, 3) := by decide +kernel
theorem dX3_count_59 : decode cX3_count 59 = .ok (.ireturn, 1) := by decide +kernel
theorem dX3_count_60 : decode cX3_count 60 = .ok (.aload_n 0, 1) := by decide +kernel
theorem dX3_count_61 : decode cX3_count 61 = .ok (.getfield 10, 3) := by decide +kernel
theorem dX3_count_64 : decode cX3_count 64 = .ok (.getfield 133, 3) := by decide +kernel
theorem dX3_count_67 : decode cX3_count 67 = .ok (.ireturn, 1) := by decide +kernel
theorem dX3_count_68 : decode cX3_count 68 = .ok (.aload_n 0, 1) := by decide +kernel
theorem dX3_count_69 : decode cX3_count 69 = .ok (.getfield 10, 3) := by decide +kernel
theorem dX3_count_72 : decode cX3_count 72 = .ok (.invokevirtual 136, 3) := by decide +kernel
theorem dX3_count_75 : decode cX3_count 75 = .ok (.ireturn, 1) := by decide +kernel
theorem dX3_count_76 : decode cX3_count 76 = .ok (.aload_n 0, 1) := by decide +kernel
theorem dX3_count_77 : decode cX3_count 77 = .ok (.getfield 10, 3) := by decide +kernel
theorem dX3_count_80 : decode cX3_count 80 = .ok (.invokevirtual 139, 3) := by decide +kernel
theorem dX3_count_83 : decode cX3_count 83 = .ok (.ireturn, 1) := by decide +kernel
theorem dX3_count_84 : decode cX3_count 84 = .ok (.aload_n 0, 1) := by decide +kernel
theorem dX3_count_85 : decode cX3_count 85 = .ok (.getfield 10, 3) := by decide +kernel
theorem dX3_count_88 : decode cX3_count 88 = .ok (.getfield 142, 3) := by decide +kernel
theorem dX3_count_91 : decode cX3_count 91 = .ok (.aload_n 0, 1) := by decide +kernel
theorem dX3_count_92 : decode cX3_count 92 = .ok (.getfield 10, 3) := by decide +kernel
theorem dX3_count_95 : decode cX3_count 95 = .ok (.getfield 130, 3) := by decide +kernel
theorem dX3_count_98 : decode cX3_count 98 = .ok (.invokestatic 145, 3) := by decide +kernel
theorem dX3_count_101 : decode cX3_count 101 = .ok (.ireturn, 1) := by decide +kernel
theorem dX3_count_102 : decode cX3_count 102 = .ok (.aload_n 0, 1) := by decide +kernel
theorem dX3_count_103 : decode cX3_count 103 = .ok (.getfield 10, 3) := by decide +kernel
theorem dX3_count_106 : decode cX3_count 106 = .ok (.getfield 149, 3) := by decide +kernel
theorem dX3_count_109 : decode cX3_count 109 = .ok (.aload_n 0, 1) := by decide +kernel
theorem dX3_count_110 : decode cX3_count 110 = .ok (.getfield 10, 3) := by decide +kernel
theorem dX3_count_113 : decode cX3_count 113 = .ok (.getfield 130, 3) := by decide +kernel
theorem dX3_count_116 : decode cX3_count 116 = .ok (.invokestatic 152, 3) := by decide +kernel
theorem dX3_count_119 : decode cX3_count 119 = .ok (.ireturn, 1) := by decide +kernel
theorem dX3_count_120 : decode cX3_count 120 = .ok (.aload_n 0, 1) := by decide +kernel
theorem dX3_count_121 : decode cX3_count 121 = .ok (.getfield 10, 3) := by decide +kernel
theorem dX3_count_124 : decode cX3_count 124 = .ok (.getfield 156, 3) := by decide +kernel
theorem dX3_count_127 : decode cX3_count 127 = .ok (.aload_n 0, 1) := by decide +kernel
theorem dX3_count_128 : decode cX3_count 128 = .ok (.getfield 10, 3) := by decide +kernel
theorem dX3_count_131 : decode cX3_count 131 = .ok (.getfield 130, 3) := by decide +kernel
theorem dX3_count_134 : decode cX3_count 134 = .ok (.invokestatic 152, 3) := by decide +kernel
theorem dX3_count_137 : decode cX3_count 137 = .ok (.iconst 2, 1) := by decide +kernel
theorem dX3_count_138 : decode cX3_count 138 = .ok (.idiv, 1) := by decide +kernel
theorem dX3_count_139 : decode cX3_count 139 = .ok (.ireturn, 1) := by decide +kernel
theorem dX3_count_140 : decode cX3_count 140 = .ok (.aload_n 0, 1) := by decide +kernel
theorem dX3_count_141 : decode cX3_count 141 = .ok (.getfield 30, 3) := by decide +kernel
theorem dX3_count_144 : decode cX3_count 144 = .ok (.ireturn, 1) := by decide +kernel
theorem dX3_count_145 : decode cX3_count 145 = .ok (.aload_n 0, 1) := by decide +kernel
theorem dX3_count_146 : decode cX3_count 146 = .ok (.getfield 10, 3) := by decide +kernel
theorem dX3_count_149 : decode cX3_count 149 = .ok (.getfield 84, 3) := by decide +kernel
theorem dX3_count_152 : decode cX3_count 152 = .ok (.aload_n 0, 1) := by decide +kernel
theorem dX3_count_153 : decode cX3_count 153 = .ok (.getfield 10, 3) := by decide +kernel
theorem dX3_count_156 : decode cX3_count 156 = .ok (.getfield 130, 3) := by decide +kernel
theorem dX3_count_159 : decode cX3_count 159 = .ok (.invokestatic 145, 3) := by decide +kernel
theorem dX3_count_162 : decode cX3_count 162 = .ok (.ireturn, 1) := by decide +kernel
theorem dX3_count_163 : decode cX3_count 163 = .ok (.iconst (-1), 1) := by decide +kernel
theorem dX3_count_164 : decode cX3_count 164 = .ok (.ireturn, 1) := by decide +kernel
theorem dX3_requireVariable_0 : decode cX3_requireVariable 0 = .ok (.iload_n 1, 1) := by decide +kernel
theorem dX3_requireVariable_1 : decode cX3_requireVariable 1 = .ok (.ifCond .lt 14, 3) := by decide +kernel
theorem dX3_requireVariable_4 : decode cX3_requireVariable 4 = .ok (.iload_n 1, 1) := by decide +kernel
theorem dX3_requireVariable_5 : decode cX3_requireVariable 5 = .ok (.aload_n 0, 1) := by decide +kernel
theorem dX3_requireVariable_6 : decode cX3_requireVariable 6 = .ok (.getfield 10, 3) := by decide +kernel
theorem dX3_requireVariable_9 : decode cX3_requireVariable 9 = .ok (.getfield 130, 3) := by decide +kernel
theorem dX3_requireVariable_12 : decode cX3_requireVariable 12 = .ok (.if_icmp .lt 13, 3) := by decide +kernel
theorem dX3_requireVariable_15 : decode cX3_requireVariable 15 = .ok (.new 159, 3) := by decide +kernel
theorem dX3_requireVariable_18 : decode cX3_requireVariable 18 = .ok (.dup, 1) := by decide +kernel
theorem dX3_requireVariable_19 : decode cX3_requireVariable 19 = .ok (.ldc 161, 2) := by decide +kernel
theorem dX3_requireVariable_21 : decode cX3_requireVariable 21 = .ok (.invokespecial 163, 3) := by decide +kernel
theorem dX3_requireVariable_24 : decode cX3_requireVariable 24 = .ok (.athrow, 1) := by decide +kernel
theorem dX3_requireVariable_25 : decode cX3_requireVariable 25 = .ok (.return_, 1) := by decide +kernel
theorem dX3_requireAtom_0 : decode cX3_requireAtom 0 = .ok (.iload_n 1, 1) := by decide +kernel
theorem dX3_requireAtom_1 : decode cX3_requireAtom 1 = .ok (.ifCond .lt 14, 3) := by decide +kernel
theorem dX3_requireAtom_4 : decode cX3_requireAtom 4 = .ok (.iload_n 1, 1) := by decide +kernel
theorem dX3_requireAtom_5 : decode cX3_requireAtom 5 = .ok (.aload_n 0, 1) := by decide +kernel
theorem dX3_requireAtom_6 : decode cX3_requireAtom 6 = .ok (.getfield 10, 3) := by decide +kernel
theorem dX3_requireAtom_9 : decode cX3_requireAtom 9 = .ok (.getfield 133, 3) := by decide +kernel
theorem dX3_requireAtom_12 : decode cX3_requireAtom 12 = .ok (.if_icmp .lt 13, 3) := by decide +kernel
theorem dX3_requireAtom_15 : decode cX3_requireAtom 15 = .ok (.new 159, 3) := by decide +kernel
theorem dX3_requireAtom_18 : decode cX3_requireAtom 18 = .ok (.dup, 1) := by decide +kernel
theorem dX3_requireAtom_19 : decode cX3_requireAtom 19 = .ok (.ldc 164, 2) := by decide +kernel
theorem dX3_requireAtom_21 : decode cX3_requireAtom 21 = .ok (.invokespecial 163, 3) := by decide +kernel
theorem dX3_requireAtom_24 : decode cX3_requireAtom 24 = .ok (.athrow, 1) := by decide +kernel
theorem dX3_requireAtom_25 : decode cX3_requireAtom 25 = .ok (.return_, 1) := by decide +kernel
theorem dX3_requireLevel_0 : decode cX3_requireLevel 0 = .ok (.iload_n 0, 1) := by decide +kernel
theorem dX3_requireLevel_1 : decode cX3_requireLevel 1 = .ok (.ifCond .lt 9, 3) := by decide +kernel
theorem dX3_requireLevel_4 : decode cX3_requireLevel 4 = .ok (.iload_n 0, 1) := by decide +kernel
theorem dX3_requireLevel_5 : decode cX3_requireLevel 5 = .ok (.bipush 9, 2) := by decide +kernel
theorem dX3_requireLevel_7 : decode cX3_requireLevel 7 = .ok (.if_icmp .le 13, 3) := by decide +kernel
theorem dX3_requireLevel_10 : decode cX3_requireLevel 10 = .ok (.new 166, 3) := by decide +kernel
theorem dX3_requireLevel_13 : decode cX3_requireLevel 13 = .ok (.dup, 1) := by decide +kernel
theorem dX3_requireLevel_14 : decode cX3_requireLevel 14 = .ok (.ldc 168, 2) := by decide +kernel
theorem dX3_requireLevel_16 : decode cX3_requireLevel 16 = .ok (.invokespecial 170, 3) := by decide +kernel
theorem dX3_requireLevel_19 : decode cX3_requireLevel 19 = .ok (.athrow, 1) := by decide +kernel
theorem dX3_requireLevel_20 : decode cX3_requireLevel 20 = .ok (.return_, 1) := by decide +kernel
theorem dX3_bit_0 : decode cX3_bit 0 = .ok (.lconst 1, 1) := by decide +kernel
theorem dX3_bit_1 : decode cX3_bit 1 = .ok (.iload_n 0, 1) := by decide +kernel
theorem dX3_bit_2 : decode cX3_bit 2 = .ok (.lshl, 1) := by decide +kernel
theorem dX3_bit_3 : decode cX3_bit 3 = .ok (.lreturn, 1) := by decide +kernel
theorem dX3_contains_0 : decode cX3_contains 0 = .ok (.lload_n 0, 1) := by decide +kernel
theorem dX3_contains_1 : decode cX3_contains 1 = .ok (.iload_n 2, 1) := by decide +kernel
theorem dX3_contains_2 : decode cX3_contains 2 = .ok (.lushr, 1) := by decide +kernel
theorem dX3_contains_3 : decode cX3_contains 3 = .ok (.lconst 1, 1) := by decide +kernel
theorem dX3_contains_4 : decode cX3_contains 4 = .ok (.land, 1) := by decide +kernel
theorem dX3_contains_5 : decode cX3_contains 5 = .ok (.lconst 0, 1) := by decide +kernel
theorem dX3_contains_6 : decode cX3_contains 6 = .ok (.lcmp, 1) := by decide +kernel
theorem dX3_contains_7 : decode cX3_contains 7 = .ok (.ifCond .eq 7, 3) := by decide +kernel
theorem dX3_contains_10 : decode cX3_contains 10 = .ok (.iconst 1, 1) := by decide +kernel
theorem dX3_contains_11 : decode cX3_contains 11 = .ok (.goto 4, 3) := by decide +kernel
theorem dX3_contains_14 : decode cX3_contains 14 = .ok (.iconst 0, 1) := by decide +kernel
theorem dX3_contains_15 : decode cX3_contains 15 = .ok (.ireturn, 1) := by decide +kernel
theorem dX3_containsAtom_0 : decode cX3_containsAtom 0 = .ok (.iload_n 0, 1) := by decide +kernel
theorem dX3_containsAtom_1 : decode cX3_containsAtom 1 = .ok (.iload_n 1, 1) := by decide +kernel
theorem dX3_containsAtom_2 : decode cX3_containsAtom 2 = .ok (.iushr, 1) := by decide +kernel
theorem dX3_containsAtom_3 : decode cX3_containsAtom 3 = .ok (.iconst 1, 1) := by decide +kernel
theorem dX3_containsAtom_4 : decode cX3_containsAtom 4 = .ok (.iand, 1) := by decide +kernel
theorem dX3_containsAtom_5 : decode cX3_containsAtom 5 = .ok (.ifCond .eq 7, 3) := by decide +kernel
theorem dX3_containsAtom_8 : decode cX3_containsAtom 8 = .ok (.iconst 1, 1) := by decide +kernel
theorem dX3_containsAtom_9 : decode cX3_containsAtom 9 = .ok (.goto 4, 3) := by decide +kernel
theorem dX3_containsAtom_12 : decode cX3_containsAtom 12 = .ok (.iconst 0, 1) := by decide +kernel
theorem dX3_containsAtom_13 : decode cX3_containsAtom 13 = .ok (.ireturn, 1) := by decide +kernel
set_option maxRecDepth 20000 in
theorem ggX3_least_X3_contains : GoodIn wsX3_least wsX3_contains := goodIn_r _ [4] (by decide +kernel) (by decide +kernel)
set_option maxRecDepth 20000 in
theorem gX3_least_X3_contains : GoodIn wsX3_least (va_wsS RX3 171 yX3_contains wsX3_contains) := goodIn_app (goodIn_of _ (by decide +kernel)) ggX3_least_X3_contains
theorem dX3_least_0 : decode cX3_least 0 = .ok (.iconst 0, 1) := by decide +kernel
theorem dX3_least_1 : decode cX3_least 1 = .ok (.istore_n 2, 1) := by decide +kernel
theorem dX3_least_2 : decode cX3_least 2 = .ok (.iload_n 2, 1) := by decide +kernel
theorem dX3_least_3 : decode cX3_least 3 = .ok (.bipush 60, 2) := by decide +kernel
theorem dX3_least_5 : decode cX3_least 5 = .ok (.if_icmp .ge 19, 3) := by decide +kernel
theorem dX3_least_8 : decode cX3_least 8 = .ok (.lload_n 0, 1) := by decide +kernel
theorem dX3_least_9 : decode cX3_least 9 = .ok (.iload_n 2, 1) := by decide +kernel
theorem dX3_least_10 : decode cX3_least 10 = .ok (.invokestatic 171, 3) := by decide +kernel
theorem dX3_least_13 : decode cX3_least 13 = .ok (.ifCond .eq 5, 3) := by decide +kernel
theorem dX3_least_16 : decode cX3_least 16 = .ok (.iload_n 2, 1) := by decide +kernel
theorem dX3_least_17 : decode cX3_least 17 = .ok (.ireturn, 1) := by decide +kernel
theorem dX3_least_18 : decode cX3_least 18 = .ok (.iinc 2 1, 3) := by decide +kernel
theorem dX3_least_21 : decode cX3_least 21 = .ok (.goto (-19), 3) := by decide +kernel
theorem dX3_least_24 : decode cX3_least 24 = .ok (.iconst (-1), 1) := by decide +kernel
theorem dX3_least_25 : decode cX3_least 25 = .ok (.ireturn, 1) := by decide +kernel
set_option maxRecDepth 20000 in
theorem ggX3_bitsOfInts_J6_bitCount_0f7a4 : GoodIn wsX3_bitsOfInts wsJ6_bitCount_0f7a4 := goodIn_r _ [4, 5, 6, 7] (by decide +kernel) (by decide +kernel)
set_option maxRecDepth 20000 in
theorem gX3_bitsOfInts_J6_bitCount_0f7a4 : GoodIn wsX3_bitsOfInts (va_wsS RX3 175 yJ6_bitCount_0f7a4 wsJ6_bitCount_0f7a4) := goodIn_app (goodIn_of _ (by decide +kernel)) ggX3_bitsOfInts_J6_bitCount_0f7a4
theorem dX3_bitsOfInts_0 : decode cX3_bitsOfInts 0 = .ok (.iconst 0, 1) := by decide +kernel
theorem dX3_bitsOfInts_1 : decode cX3_bitsOfInts 1 = .ok (.istore_n 2, 1) := by decide +kernel
theorem dX3_bitsOfInts_2 : decode cX3_bitsOfInts 2 = .ok (.iconst 0, 1) := by decide +kernel
theorem dX3_bitsOfInts_3 : decode cX3_bitsOfInts 3 = .ok (.istore_n 3, 1) := by decide +kernel
theorem dX3_bitsOfInts_4 : decode cX3_bitsOfInts 4 = .ok (.iload_n 3, 1) := by decide +kernel
theorem dX3_bitsOfInts_5 : decode cX3_bitsOfInts 5 = .ok (.iload_n 1, 1) := by decide +kernel
theorem dX3_bitsOfInts_6 : decode cX3_bitsOfInts 6 = .ok (.if_icmp .ge 24, 3) := by decide +kernel
theorem dX3_bitsOfInts_9 : decode cX3_bitsOfInts 9 = .ok (.iload_n 3, 1) := by decide +kernel
theorem dX3_bitsOfInts_10 : decode cX3_bitsOfInts 10 = .ok (.aload_n 0, 1) := by decide +kernel
theorem dX3_bitsOfInts_11 : decode cX3_bitsOfInts 11 = .ok (.arraylength, 1) := by decide +kernel
theorem dX3_bitsOfInts_12 : decode cX3_bitsOfInts 12 = .ok (.if_icmp .ge 18, 3) := by decide +kernel
theorem dX3_bitsOfInts_15 : decode cX3_bitsOfInts 15 = .ok (.iload_n 2, 1) := by decide +kernel
theorem dX3_bitsOfInts_16 : decode cX3_bitsOfInts 16 = .ok (.aload_n 0, 1) := by decide +kernel
theorem dX3_bitsOfInts_17 : decode cX3_bitsOfInts 17 = .ok (.iload_n 3, 1) := by decide +kernel
theorem dX3_bitsOfInts_18 : decode cX3_bitsOfInts 18 = .ok (.iaload, 1) := by decide +kernel
theorem dX3_bitsOfInts_19 : decode cX3_bitsOfInts 19 = .ok (.invokestatic 175, 3) := by decide +kernel
theorem dX3_bitsOfInts_22 : decode cX3_bitsOfInts 22 = .ok (.iadd, 1) := by decide +kernel
theorem dX3_bitsOfInts_23 : decode cX3_bitsOfInts 23 = .ok (.istore_n 2, 1) := by decide +kernel
theorem dX3_bitsOfInts_24 : decode cX3_bitsOfInts 24 = .ok (.iinc 3 1, 3) := by decide +kernel
theorem dX3_bitsOfInts_27 : decode cX3_bitsOfInts 27 = .ok (.goto (-23), 3) := by decide +kernel
theorem dX3_bitsOfInts_30 : decode cX3_bitsOfInts 30 = .ok (.iload_n 2, 1) := by decide +kernel
theorem dX3_bitsOfInts_31 : decode cX3_bitsOfInts 31 = .ok (.ireturn, 1) := by decide +kernel
set_option maxRecDepth 20000 in
theorem ggX3_bitsOfLongs_J13_bitCount_95d88 : GoodIn wsX3_bitsOfLongs wsJ13_bitCount_95d88 := goodIn_r _ [4, 5, 6, 7] (by decide +kernel) (by decide +kernel)
set_option maxRecDepth 20000 in
theorem gX3_bitsOfLongs_J13_bitCount_95d88 : GoodIn wsX3_bitsOfLongs (va_wsS RX3 180 yJ13_bitCount_95d88 wsJ13_bitCount_95d88) := goodIn_app (goodIn_of _ (by decide +kernel)) ggX3_bitsOfLongs_J13_bitCount_95d88
theorem dX3_bitsOfLongs_0 : decode cX3_bitsOfLongs 0 = .ok (.iconst 0, 1) := by decide +kernel
theorem dX3_bitsOfLongs_1 : decode cX3_bitsOfLongs 1 = .ok (.istore_n 2, 1) := by decide +kernel
theorem dX3_bitsOfLongs_2 : decode cX3_bitsOfLongs 2 = .ok (.iconst 0, 1) := by decide +kernel
theorem dX3_bitsOfLongs_3 : decode cX3_bitsOfLongs 3 = .ok (.istore_n 3, 1) := by decide +kernel
theorem dX3_bitsOfLongs_4 : decode cX3_bitsOfLongs 4 = .ok (.iload_n 3, 1) := by decide +kernel
theorem dX3_bitsOfLongs_5 : decode cX3_bitsOfLongs 5 = .ok (.iload_n 1, 1) := by decide +kernel
theorem dX3_bitsOfLongs_6 : decode cX3_bitsOfLongs 6 = .ok (.if_icmp .ge 24, 3) := by decide +kernel
theorem dX3_bitsOfLongs_9 : decode cX3_bitsOfLongs 9 = .ok (.iload_n 3, 1) := by decide +kernel
theorem dX3_bitsOfLongs_10 : decode cX3_bitsOfLongs 10 = .ok (.aload_n 0, 1) := by decide +kernel
theorem dX3_bitsOfLongs_11 : decode cX3_bitsOfLongs 11 = .ok (.arraylength, 1) := by decide +kernel
theorem dX3_bitsOfLongs_12 : decode cX3_bitsOfLongs 12 = .ok (.if_icmp .ge 18, 3) := by decide +kernel
theorem dX3_bitsOfLongs_15 : decode cX3_bitsOfLongs 15 = .ok (.iload_n 2, 1) := by decide +kernel
theorem dX3_bitsOfLongs_16 : decode cX3_bitsOfLongs 16 = .ok (.aload_n 0, 1) := by decide +kernel
theorem dX3_bitsOfLongs_17 : decode cX3_bitsOfLongs 17 = .ok (.iload_n 3, 1) := by decide +kernel
theorem dX3_bitsOfLongs_18 : decode cX3_bitsOfLongs 18 = .ok (.laload, 1) := by decide +kernel
theorem dX3_bitsOfLongs_19 : decode cX3_bitsOfLongs 19 = .ok (.invokestatic 180, 3) := by decide +kernel
theorem dX3_bitsOfLongs_22 : decode cX3_bitsOfLongs 22 = .ok (.iadd, 1) := by decide +kernel
theorem dX3_bitsOfLongs_23 : decode cX3_bitsOfLongs 23 = .ok (.istore_n 2, 1) := by decide +kernel
theorem dX3_bitsOfLongs_24 : decode cX3_bitsOfLongs 24 = .ok (.iinc 3 1, 3) := by decide +kernel
theorem dX3_bitsOfLongs_27 : decode cX3_bitsOfLongs 27 = .ok (.goto (-23), 3) := by decide +kernel
theorem dX3_bitsOfLongs_30 : decode cX3_bitsOfLongs 30 = .ok (.iload_n 2, 1) := by decide +kernel
theorem dX3_bitsOfLongs_31 : decode cX3_bitsOfLongs 31 = .ok (.ireturn, 1) := by decide +kernel
theorem dX4_init_0 : decode cX4_init 0 = .ok (.aload_n 0, 1) := by decide +kernel
theorem dX4_init_1 : decode cX4_init 1 = .ok (.invokespecial 1, 3) := by decide +kernel
theorem dX4_init_4 : decode cX4_init 4 = .ok (.aload_n 0, 1) := by decide +kernel
theorem dX4_init_5 : decode cX4_init 5 = .ok (.bipush 60, 2) := by decide +kernel
theorem dX4_init_7 : decode cX4_init 7 = .ok (.newarray .int, 2) := by decide +kernel
theorem dX4_init_9 : decode cX4_init 9 = .ok (.putfield 7, 3) := by decide +kernel
theorem dX4_init_12 : decode cX4_init 12 = .ok (.aload_n 0, 1) := by decide +kernel
theorem dX4_init_13 : decode cX4_init 13 = .ok (.bipush 32, 2) := by decide +kernel
theorem dX4_init_15 : decode cX4_init 15 = .ok (.newarray .int, 2) := by decide +kernel
theorem dX4_init_17 : decode cX4_init 17 = .ok (.putfield 13, 3) := by decide +kernel
theorem dX4_init_20 : decode cX4_init 20 = .ok (.aload_n 0, 1) := by decide +kernel
theorem dX4_init_21 : decode cX4_init 21 = .ok (.sipush 1920, 3) := by decide +kernel
theorem dX4_init_24 : decode cX4_init 24 = .ok (.newarray .int, 2) := by decide +kernel
theorem dX4_init_26 : decode cX4_init 26 = .ok (.putfield 16, 3) := by decide +kernel
theorem dX4_init_29 : decode cX4_init 29 = .ok (.aload_n 0, 1) := by decide +kernel
theorem dX4_init_30 : decode cX4_init 30 = .ok (.sipush 3600, 3) := by decide +kernel
theorem dX4_init_33 : decode cX4_init 33 = .ok (.newarray .int, 2) := by decide +kernel
theorem dX4_init_35 : decode cX4_init 35 = .ok (.putfield 19, 3) := by decide +kernel
theorem dX4_init_38 : decode cX4_init 38 = .ok (.aload_n 0, 1) := by decide +kernel
theorem dX4_init_39 : decode cX4_init 39 = .ok (.sipush 3600, 3) := by decide +kernel
theorem dX4_init_42 : decode cX4_init 42 = .ok (.newarray .int, 2) := by decide +kernel
theorem dX4_init_44 : decode cX4_init 44 = .ok (.putfield 22, 3) := by decide +kernel
theorem dX4_init_47 : decode cX4_init 47 = .ok (.aload_n 0, 1) := by decide +kernel
theorem dX4_init_48 : decode cX4_init 48 = .ok (.bipush 20, 2) := by decide +kernel
theorem dX4_init_50 : decode cX4_init 50 = .ok (.newarray .int, 2) := by decide +kernel
theorem dX4_init_52 : decode cX4_init 52 = .ok (.putfield 25, 3) := by decide +kernel
theorem dX4_init_55 : decode cX4_init 55 = .ok (.aload_n 0, 1) := by decide +kernel
theorem dX4_init_56 : decode cX4_init 56 = .ok (.bipush 20, 2) := by decide +kernel
theorem dX4_init_58 : decode cX4_init 58 = .ok (.newarray .int, 2) := by decide +kernel
theorem dX4_init_60 : decode cX4_init 60 = .ok (.putfield 28, 3) := by decide +kernel
theorem dX4_init_63 : decode cX4_init 63 = .ok (.aload_n 0, 1) := by decide +kernel
theorem dX4_init_64 : decode cX4_init 64 = .ok (.bipush 20, 2) := by decide +kernel
theorem dX4_init_66 : decode cX4_init 66 = .ok (.newarray .int, 2) := by decide +kernel
theorem dX4_init_68 : decode cX4_init 68 = .ok (.putfield 31, 3) := by decide +kernel
theorem dX4_init_71 : decode cX4_init 71 = .ok (.aload_n 0, 1) := by decide +kernel
theorem dX4_init_72 : decode cX4_init 72 = .ok (.bipush 60, 2) := by decide +kernel
theorem dX4_init_74 : decode cX4_init 74 = .ok (.newarray .int, 2) := by decide +kernel
theorem dX4_init_76 : decode cX4_init 76 = .ok (.putfield 34, 3) := by decide +kernel
theorem dX4_init_79 : decode cX4_init 79 = .ok (.aload_n 0, 1) := by decide +kernel
theorem dX4_init_80 : decode cX4_init 80 = .ok (.bipush 60, 2) := by decide +kernel
theorem dX4_init_82 : decode cX4_init 82 = .ok (.newarray .long, 2) := by decide +kernel
theorem dX4_init_84 : decode cX4_init 84 = .ok (.putfield 37, 3) := by decide +kernel
theorem dX4_init_87 : decode cX4_init 87 = .ok (.aload_n 0, 1) := by decide +kernel
theorem dX4_init_88 : decode cX4_init 88 = .ok (.bipush 60, 2) := by decide +kernel
theorem dX4_init_90 : decode cX4_init 90 = .ok (.newarray .int, 2) := by decide +kernel
theorem dX4_init_92 : decode cX4_init 92 = .ok (.putfield 41, 3) := by decide +kernel
theorem dX4_init_95 : decode cX4_init 95 = .ok (.aload_n 0, 1) := by decide +kernel
theorem dX4_init_96 : decode cX4_init 96 = .ok (.bipush 60, 2) := by decide +kernel
theorem dX4_init_98 : decode cX4_init 98 = .ok (.newarray .int, 2) := by decide +kernel
theorem dX4_init_100 : decode cX4_init 100 = .ok (.putfield 44, 3) := by decide +kernel
theorem dX4_init_103 : decode cX4_init 103 = .ok (.aload_n 0, 1) := by decide +kernel
theorem dX4_init_104 : decode cX4_init 104 = .ok (.bipush 32, 2) := by decide +kernel
theorem dX4_init_106 : decode cX4_init 106 = .ok (.newarray .int, 2) := by decide +kernel
theorem dX4_init_108 : decode cX4_init 108 = .ok (.putfield 47, 3) := by decide +kernel
theorem dX4_init_111 : decode cX4_init 111 = .ok (.aload_n 0, 1) := by decide +kernel
theorem dX4_init_112 : decode cX4_init 112 = .ok (.bipush 60, 2) := by decide +kernel
theorem dX4_init_114 : decode cX4_init 114 = .ok (.newarray .int, 2) := by decide +kernel
theorem dX4_init_116 : decode cX4_init 116 = .ok (.putfield 50, 3) := by decide +kernel
theorem dX4_init_119 : decode cX4_init 119 = .ok (.aload_n 0, 1) := by decide +kernel
theorem dX4_init_120 : decode cX4_init 120 = .ok (.bipush 60, 2) := by decide +kernel
theorem dX4_init_122 : decode cX4_init 122 = .ok (.newarray .int, 2) := by decide +kernel
theorem dX4_init_124 : decode cX4_init 124 = .ok (.putfield 53, 3) := by decide +kernel
theorem dX4_init_127 : decode cX4_init 127 = .ok (.aload_n 0, 1) := by decide +kernel
theorem dX4_init_128 : decode cX4_init 128 = .ok (.bipush 32, 2) := by decide +kernel
theorem dX4_init_130 : decode cX4_init 130 = .ok (.newarray .int, 2) := by decide +kernel
theorem dX4_init_132 : decode cX4_init 132 = .ok (.putfield 56, 3) := by decide +kernel
theorem dX4_init_135 : decode cX4_init 135 = .ok (.return_, 1) := by decide +kernel
theorem dX4_thrown_0 : decode cX4_thrown 0 = .ok (.aload_n 0, 1) := by decide +kernel
theorem dX4_thrown_1 : decode cX4_thrown 1 = .ok (.getfield 59, 3) := by decide +kernel
theorem dX4_thrown_4 : decode cX4_thrown 4 = .ok (.ireturn, 1) := by decide +kernel
theorem dX4_goes_0 : decode cX4_goes 0 = .ok (.aload_n 0, 1) := by decide +kernel
theorem dX4_goes_1 : decode cX4_goes 1 = .ok (.iload_n 1, 1) := by decide +kernel
theorem dX4_goes_2 : decode cX4_goes 2 = .ok (.ifCond .ne 7, 3) := by decide +kernel
theorem dX4_goes_5 : decode cX4_goes 5 = .ok (.iconst 1, 1) := by decide +kernel
theorem dX4_goes_6 : decode cX4_goes 6 = .ok (.goto 12, 3) := by decide +kernel
theorem dX4_goes_9 : decode cX4_goes 9 = .ok (.iload_n 2, 1) := by decide +kernel
theorem dX4_goes_10 : decode cX4_goes 10 = .ok (.ifCond .ne 7, 3) := by decide +kernel
theorem dX4_goes_13 : decode cX4_goes 13 = .ok (.iconst 2, 1) := by decide +kernel
theorem dX4_goes_14 : decode cX4_goes 14 = .ok (.goto 4, 3) := by decide +kernel
theorem dX4_goes_17 : decode cX4_goes 17 = .ok (.iconst 0, 1) := by decide +kernel
theorem dX4_goes_18 : decode cX4_goes 18 = .ok (.putfield 59, 3) := by decide +kernel
theorem dX4_goes_21 : decode cX4_goes 21 = .ok (.aload_n 0, 1) := by decide +kernel
theorem dX4_goes_22 : decode cX4_goes 22 = .ok (.getfield 59, 3) := by decide +kernel
theorem dX4_goes_25 : decode cX4_goes 25 = .ok (.ifCond .ne 7, 3) := by decide +kernel
theorem dX4_goes_28 : decode cX4_goes 28 = .ok (.iconst 1, 1) := by decide +kernel
theorem dX4_goes_29 : decode cX4_goes 29 = .ok (.goto 4, 3) := by decide +kernel
theorem dX4_goes_32 : decode cX4_goes 32 = .ok (.iconst 0, 1) := by decide +kernel
theorem dX4_goes_33 : decode cX4_goes 33 = .ok (.ireturn, 1) := by decide +kernel
theorem dX4_isVariable_0 : decode cX4_isVariable 0 = .ok (.iload_n 1, 1) := by decide +kernel
theorem dX4_isVariable_1 : decode cX4_isVariable 1 = .ok (.ifCond .lt 15, 3) := by decide +kernel
theorem dX4_isVariable_4 : decode cX4_isVariable 4 = .ok (.iload_n 1, 1) := by decide +kernel
theorem dX4_isVariable_5 : decode cX4_isVariable 5 = .ok (.aload_n 0, 1) := by decide +kernel
theorem dX4_isVariable_6 : decode cX4_isVariable 6 = .ok (.getfield 63, 3) := by decide +kernel
theorem dX4_isVariable_9 : decode cX4_isVariable 9 = .ok (.if_icmp .ge 7, 3) := by decide +kernel
theorem dX4_isVariable_12 : decode cX4_isVariable 12 = .ok (.iconst 1, 1) := by decide +kernel
theorem dX4_isVariable_13 : decode cX4_isVariable 13 = .ok (.goto 4, 3) := by decide +kernel
theorem dX4_isVariable_16 : decode cX4_isVariable 16 = .ok (.iconst 0, 1) := by decide +kernel
theorem dX4_isVariable_17 : decode cX4_isVariable 17 = .ok (.ireturn, 1) := by decide +kernel
theorem dX4_isAtom_0 : decode cX4_isAtom 0 = .ok (.iload_n 1, 1) := by decide +kernel
theorem dX4_isAtom_1 : decode cX4_isAtom 1 = .ok (.ifCond .lt 15, 3) := by decide +kernel
theorem dX4_isAtom_4 : decode cX4_isAtom 4 = .ok (.iload_n 1, 1) := by decide +kernel
theorem dX4_isAtom_5 : decode cX4_isAtom 5 = .ok (.aload_n 0, 1) := by decide +kernel
theorem dX4_isAtom_6 : decode cX4_isAtom 6 = .ok (.getfield 66, 3) := by decide +kernel
theorem dX4_isAtom_9 : decode cX4_isAtom 9 = .ok (.if_icmp .ge 7, 3) := by decide +kernel
theorem dX4_isAtom_12 : decode cX4_isAtom 12 = .ok (.iconst 1, 1) := by decide +kernel
theorem dX4_isAtom_13 : decode cX4_isAtom 13 = .ok (.goto 4, 3) := by decide +kernel
theorem dX4_isAtom_16 : decode cX4_isAtom 16 = .ok (.iconst 0, 1) := by decide +kernel
theorem dX4_isAtom_17 : decode cX4_isAtom 17 = .ok (.ireturn, 1) := by decide +kernel
theorem dX4_findNodes_0 : decode cX4_findNodes 0 = .ok (.iconst 0, 1) := by decide +kernel
theorem dX4_findNodes_1 : decode cX4_findNodes 1 = .ok (.istore_n 1, 1) := by decide +kernel
theorem dX4_findNodes_2 : decode cX4_findNodes 2 = .ok (.iload_n 1, 1) := by decide +kernel
theorem dX4_findNodes_3 : decode cX4_findNodes 3 = .ok (.aload_n 0, 1) := by decide +kernel
theorem dX4_findNodes_4 : decode cX4_findNodes 4 = .ok (.getfield 63, 3) := by decide +kernel
theorem dX4_findNodes_7 : decode cX4_findNodes 7 = .ok (.if_icmp .ge 16, 3) := by decide +kernel
theorem dX4_findNodes_10 : decode cX4_findNodes 10 = .ok (.aload_n 0, 1) := by decide +kernel
theorem dX4_findNodes_11 : decode cX4_findNodes 11 = .ok (.getfield 34, 3) := by decide +kernel
theorem dX4_findNodes_14 : decode cX4_findNodes 14 = .ok (.iload_n 1, 1) := by decide +kernel
theorem dX4_findNodes_15 : decode cX4_findNodes 15 = .ok (.iload_n 1, 1) := by decide +kernel
theorem dX4_findNodes_16 : decode cX4_findNodes 16 = .ok (.iastore, 1) := by decide +kernel
theorem dX4_findNodes_17 : decode cX4_findNodes 17 = .ok (.iinc 1 1, 3) := by decide +kernel
theorem dX4_findNodes_20 : decode cX4_findNodes 20 = .ok (.goto (-18), 3) := by decide +kernel
theorem dX4_findNodes_23 : decode cX4_findNodes 23 = .ok (.iconst 1, 1) := by decide +kernel
theorem dX4_findNodes_24 : decode cX4_findNodes 24 = .ok (.istore_n 1, 1) := by decide +kernel
theorem dX4_findNodes_25 : decode cX4_findNodes 25 = .ok (.iload_n 1, 1) := by decide +kernel
theorem dX4_findNodes_26 : decode cX4_findNodes 26 = .ok (.ifCond .eq 83, 3) := by decide +kernel
theorem dX4_findNodes_29 : decode cX4_findNodes 29 = .ok (.iconst 0, 1) := by decide +kernel
theorem dX4_findNodes_30 : decode cX4_findNodes 30 = .ok (.istore_n 1, 1) := by decide +kernel
theorem dX4_findNodes_31 : decode cX4_findNodes 31 = .ok (.iconst 0, 1) := by decide +kernel
theorem dX4_findNodes_32 : decode cX4_findNodes 32 = .ok (.istore_n 2, 1) := by decide +kernel
theorem dX4_findNodes_33 : decode cX4_findNodes 33 = .ok (.iload_n 2, 1) := by decide +kernel
theorem dX4_findNodes_34 : decode cX4_findNodes 34 = .ok (.aload_n 0, 1) := by decide +kernel
theorem dX4_findNodes_35 : decode cX4_findNodes 35 = .ok (.getfield 63, 3) := by decide +kernel
theorem dX4_findNodes_38 : decode cX4_findNodes 38 = .ok (.if_icmp .ge 68, 3) := by decide +kernel
theorem dX4_findNodes_41 : decode cX4_findNodes 41 = .ok (.iconst 0, 1) := by decide +kernel
theorem dX4_findNodes_42 : decode cX4_findNodes 42 = .ok (.istore_n 3, 1) := by decide +kernel
theorem dX4_findNodes_43 : decode cX4_findNodes 43 = .ok (.iload_n 3, 1) := by decide +kernel
theorem dX4_findNodes_44 : decode cX4_findNodes 44 = .ok (.aload_n 0, 1) := by decide +kernel
theorem dX4_findNodes_45 : decode cX4_findNodes 45 = .ok (.getfield 63, 3) := by decide +kernel
theorem dX4_findNodes_48 : decode cX4_findNodes 48 = .ok (.if_icmp .ge 52, 3) := by decide +kernel
theorem dX4_findNodes_51 : decode cX4_findNodes 51 = .ok (.aload_n 0, 1) := by decide +kernel
theorem dX4_findNodes_52 : decode cX4_findNodes 52 = .ok (.getfield 22, 3) := by decide +kernel
theorem dX4_findNodes_55 : decode cX4_findNodes 55 = .ok (.bipush 60, 2) := by decide +kernel
theorem dX4_findNodes_57 : decode cX4_findNodes 57 = .ok (.iload_n 2, 1) := by decide +kernel
theorem dX4_findNodes_58 : decode cX4_findNodes 58 = .ok (.imul, 1) := by decide +kernel
theorem dX4_findNodes_59 : decode cX4_findNodes 59 = .ok (.iload_n 3, 1) := by decide +kernel
theorem dX4_findNodes_60 : decode cX4_findNodes 60 = .ok (.iadd, 1) := by decide +kernel
theorem dX4_findNodes_61 : decode cX4_findNodes 61 = .ok (.iaload, 1) := by decide +kernel
theorem dX4_findNodes_62 : decode cX4_findNodes 62 = .ok (.ifCond .le 32, 3) := by decide +kernel
theorem dX4_findNodes_65 : decode cX4_findNodes 65 = .ok (.aload_n 0, 1) := by decide +kernel
theorem dX4_findNodes_66 : decode cX4_findNodes 66 = .ok (.getfield 34, 3) := by decide +kernel
theorem dX4_findNodes_69 : decode cX4_findNodes 69 = .ok (.iload_n 3, 1) := by decide +kernel
theorem dX4_findNodes_70 : decode cX4_findNodes 70 = .ok (.iaload, 1) := by decide +kernel
theorem dX4_findNodes_71 : decode cX4_findNodes 71 = .ok (.aload_n 0, 1) := by decide +kernel
theorem dX4_findNodes_72 : decode cX4_findNodes 72 = .ok (.getfield 34, 3) := by decide +kernel
theorem dX4_findNodes_75 : decode cX4_findNodes 75 = .ok (.iload_n 2, 1) := by decide +kernel
theorem dX4_findNodes_76 : decode cX4_findNodes 76 = .ok (.iaload, 1) := by decide +kernel
theorem dX4_findNodes_77 : decode cX4_findNodes 77 = .ok (.if_icmp .ge 17, 3) := by decide +kernel
theorem dX4_findNodes_80 : decode cX4_findNodes 80 = .ok (.aload_n 0, 1) := by decide +kernel
theorem dX4_findNodes_81 : decode cX4_findNodes 81 = .ok (.getfield 34, 3) := by decide +kernel
theorem dX4_findNodes_84 : decode cX4_findNodes 84 = .ok (.iload_n 2, 1) := by decide +kernel
theorem dX4_findNodes_85 : decode cX4_findNodes 85 = .ok (.aload_n 0, 1) := by decide +kernel
theorem dX4_findNodes_86 : decode cX4_findNodes 86 = .ok (.getfield 34, 3) := by decide +kernel
theorem dX4_findNodes_89 : decode cX4_findNodes 89 = .ok (.iload_n 3, 1) := by decide +kernel
theorem dX4_findNodes_90 : decode cX4_findNodes 90 = .ok (.iaload, 1) := by decide +kernel
theorem dX4_findNodes_91 : decode cX4_findNodes 91 = .ok (.iastore, 1) := by decide +kernel
theorem dX4_findNodes_92 : decode cX4_findNodes 92 = .ok (.iconst 1, 1) := by decide +kernel
theorem dX4_findNodes_93 : decode cX4_findNodes 93 = .ok (.istore_n 1, 1) := by decide +kernel
theorem dX4_findNodes_94 : decode cX4_findNodes 94 = .ok (.iinc 3 1, 3) := by decide +kernel
theorem dX4_findNodes_97 : decode cX4_findNodes 97 = .ok (.goto (-54), 3) := by decide +kernel
theorem dX4_findNodes_100 : decode cX4_findNodes 100 = .ok (.iinc 2 1, 3) := by decide +kernel
theorem dX4_findNodes_103 : decode cX4_findNodes 103 = .ok (.goto (-70), 3) := by decide +kernel
theorem dX4_findNodes_106 : decode cX4_findNodes 106 = .ok (.goto (-81), 3) := by decide +kernel
theorem dX4_findNodes_109 : decode cX4_findNodes 109 = .ok (.return_, 1) := by decide +kernel
theorem dX4_findReach_0 : decode cX4_findReach 0 = .ok (.iconst 0, 1) := by decide +kernel
theorem dX4_findReach_1 : decode cX4_findReach 1 = .ok (.istore_n 1, 1) := by decide +kernel
theorem dX4_findReach_2 : decode cX4_findReach 2 = .ok (.iload_n 1, 1) := by decide +kernel
theorem dX4_findReach_3 : decode cX4_findReach 3 = .ok (.aload_n 0, 1) := by decide +kernel
theorem dX4_findReach_4 : decode cX4_findReach 4 = .ok (.getfield 63, 3) := by decide +kernel
theorem dX4_findReach_7 : decode cX4_findReach 7 = .ok (.if_icmp .ge 23, 3) := by decide +kernel
theorem dX4_findReach_10 : decode cX4_findReach 10 = .ok (.aload_n 0, 1) := by decide +kernel
theorem dX4_findReach_11 : decode cX4_findReach 11 = .ok (.getfield 37, 3) := by decide +kernel
theorem dX4_findReach_14 : decode cX4_findReach 14 = .ok (.iload_n 1, 1) := by decide +kernel
theorem dX4_findReach_15 : decode cX4_findReach 15 = .ok (.lconst 1, 1) := by decide +kernel
theorem dX4_findReach_16 : decode cX4_findReach 16 = .ok (.aload_n 0, 1) := by decide +kernel
theorem dX4_findReach_17 : decode cX4_findReach 17 = .ok (.getfield 34, 3) := by decide +kernel
theorem dX4_findReach_20 : decode cX4_findReach 20 = .ok (.iload_n 1, 1) := by decide +kernel
theorem dX4_findReach_21 : decode cX4_findReach 21 = .ok (.iaload, 1) := by decide +kernel
theorem dX4_findReach_22 : decode cX4_findReach 22 = .ok (.lshl, 1) := by decide +kernel
theorem dX4_findReach_23 : decode cX4_findReach 23 = .ok (.lastore, 1) := by decide +kernel
theorem dX4_findReach_24 : decode cX4_findReach 24 = .ok (.iinc 1 1, 3) := by decide +kernel
theorem dX4_findReach_27 : decode cX4_findReach 27 = .ok (.goto (-25), 3) := by decide +kernel
theorem dX4_findReach_30 : decode cX4_findReach 30 = .ok (.iconst 1, 1) := by decide +kernel
theorem dX4_findReach_31 : decode cX4_findReach 31 = .ok (.istore_n 1, 1) := by decide +kernel
theorem dX4_findReach_32 : decode cX4_findReach 32 = .ok (.iload_n 1, 1) := by decide +kernel
theorem dX4_findReach_33 : decode cX4_findReach 33 = .ok (.ifCond .eq 120, 3) := by decide +kernel
theorem dX4_findReach_36 : decode cX4_findReach 36 = .ok (.iconst 0, 1) := by decide +kernel
theorem dX4_findReach_37 : decode cX4_findReach 37 = .ok (.istore_n 1, 1) := by decide +kernel
theorem dX4_findReach_38 : decode cX4_findReach 38 = .ok (.iconst 0, 1) := by decide +kernel
theorem dX4_findReach_39 : decode cX4_findReach 39 = .ok (.istore_n 2, 1) := by decide +kernel
theorem dX4_findReach_40 : decode cX4_findReach 40 = .ok (.iload_n 2, 1) := by decide +kernel
theorem dX4_findReach_41 : decode cX4_findReach 41 = .ok (.aload_n 0, 1) := by decide +kernel
theorem dX4_findReach_42 : decode cX4_findReach 42 = .ok (.getfield 63, 3) := by decide +kernel
theorem dX4_findReach_45 : decode cX4_findReach 45 = .ok (.if_icmp .ge 105, 3) := by decide +kernel
theorem dX4_findReach_48 : decode cX4_findReach 48 = .ok (.iconst 0, 1) := by decide +kernel
theorem dX4_findReach_49 : decode cX4_findReach 49 = .ok (.istore_n 3, 1) := by decide +kernel
theorem dX4_findReach_50 : decode cX4_findReach 50 = .ok (.iload_n 3, 1) := by decide +kernel
theorem dX4_findReach_51 : decode cX4_findReach 51 = .ok (.aload_n 0, 1) := by decide +kernel
theorem dX4_findReach_52 : decode cX4_findReach 52 = .ok (.getfield 63, 3) := by decide +kernel
theorem dX4_findReach_55 : decode cX4_findReach 55 = .ok (.if_icmp .ge 89, 3) := by decide +kernel
theorem dX4_findReach_58 : decode cX4_findReach 58 = .ok (.aload_n 0, 1) := by decide +kernel
theorem dX4_findReach_59 : decode cX4_findReach 59 = .ok (.getfield 34, 3) := by decide +kernel
theorem dX4_findReach_62 : decode cX4_findReach 62 = .ok (.iload_n 2, 1) := by decide +kernel
theorem dX4_findReach_63 : decode cX4_findReach 63 = .ok (.iaload, 1) := by decide +kernel
theorem dX4_findReach_64 : decode cX4_findReach 64 = .ok (.aload_n 0, 1) := by decide +kernel
theorem dX4_findReach_65 : decode cX4_findReach 65 = .ok (.getfield 34, 3) := by decide +kernel
theorem dX4_findReach_68 : decode cX4_findReach 68 = .ok (.iload_n 3, 1) := by decide +kernel
theorem dX4_findReach_69 : decode cX4_findReach 69 = .ok (.iaload, 1) := by decide +kernel
theorem dX4_findReach_70 : decode cX4_findReach 70 = .ok (.if_icmp .eq 17, 3) := by decide +kernel
theorem dX4_findReach_73 : decode cX4_findReach 73 = .ok (.aload_n 0, 1) := by decide +kernel
theorem dX4_findReach_74 : decode cX4_findReach 74 = .ok (.getfield 19, 3) := by decide +kernel
theorem dX4_findReach_77 : decode cX4_findReach 77 = .ok (.bipush 60, 2) := by decide +kernel
theorem dX4_findReach_79 : decode cX4_findReach 79 = .ok (.iload_n 2, 1) := by decide +kernel
theorem dX4_findReach_80 : decode cX4_findReach 80 = .ok (.imul, 1) := by decide +kernel
theorem dX4_findReach_81 : decode cX4_findReach 81 = .ok (.iload_n 3, 1) := by decide +kernel
theorem dX4_findReach_82 : decode cX4_findReach 82 = .ok (.iadd, 1) := by decide +kernel
theorem dX4_findReach_83 : decode cX4_findReach 83 = .ok (.iaload, 1) := by decide +kernel
theorem dX4_findReach_84 : decode cX4_findReach 84 = .ok (.ifCond .le 7, 3) := by decide +kernel
theorem dX4_findReach_87 : decode cX4_findReach 87 = .ok (.iconst 1, 1) := by decide +kernel
theorem dX4_findReach_88 : decode cX4_findReach 88 = .ok (.goto 4, 3) := by decide +kernel
theorem dX4_findReach_91 : decode cX4_findReach 91 = .ok (.iconst 0, 1) := by decide +kernel
theorem dX4_findReach_92 : decode cX4_findReach 92 = .ok (.istore 4, 2) := by decide +kernel
theorem dX4_findReach_94 : decode cX4_findReach 94 = .ok (.iload 4, 2) := by decide +kernel
theorem dX4_findReach_96 : decode cX4_findReach 96 = .ok (.ifCond .eq 42, 3) := by decide +kernel
theorem dX4_findReach_99 : decode cX4_findReach 99 = .ok (.aload_n 0, 1) := by decide +kernel
theorem dX4_findReach_100 : decode cX4_findReach 100 = .ok (.getfield 37, 3) := by decide +kernel
theorem dX4_findReach_103 : decode cX4_findReach 103 = .ok (.iload_n 3, 1) := by decide +kernel
theorem dX4_findReach_104 : decode cX4_findReach 104 = .ok (.laload, 1) := by decide +kernel
theorem dX4_findReach_105 : decode cX4_findReach 105 = .ok (.aload_n 0, 1) := by decide +kernel
theorem dX4_findReach_106 : decode cX4_findReach 106 = .ok (.getfield 37, 3) := by decide +kernel
theorem dX4_findReach_109 : decode cX4_findReach 109 = .ok (.iload_n 2, 1) := by decide +kernel
theorem dX4_findReach_110 : decode cX4_findReach 110 = .ok (.laload, 1) := by decide +kernel
theorem dX4_findReach_111 : decode cX4_findReach 111 = .ok (.ldc2_w 69, 3) := by decide +kernel
theorem dX4_findReach_114 : decode cX4_findReach 114 = .ok (.lxor, 1) := by decide +kernel
theorem dX4_findReach_115 : decode cX4_findReach 115 = .ok (.land, 1) := by decide +kernel
theorem dX4_findReach_116 : decode cX4_findReach 116 = .ok (.lconst 0, 1) := by decide +kernel
theorem dX4_findReach_117 : decode cX4_findReach 117 = .ok (.lcmp, 1) := by decide +kernel
theorem dX4_findReach_118 : decode cX4_findReach 118 = .ok (.ifCond .eq 20, 3) := by decide +kernel
theorem dX4_findReach_121 : decode cX4_findReach 121 = .ok (.aload_n 0, 1) := by decide +kernel
theorem dX4_findReach_122 : decode cX4_findReach 122 = .ok (.getfield 37, 3) := by decide +kernel
theorem dX4_findReach_125 : decode cX4_findReach 125 = .ok (.iload_n 2, 1) := by decide +kernel
theorem dX4_findReach_126 : decode cX4_findReach 126 = .ok (.dup2, 1) := by decide +kernel
theorem dX4_findReach_127 : decode cX4_findReach 127 = .ok (.laload, 1) := by decide +kernel
theorem dX4_findReach_128 : decode cX4_findReach 128 = .ok (.aload_n 0, 1) := by decide +kernel
theorem dX4_findReach_129 : decode cX4_findReach 129 = .ok (.getfield 37, 3) := by decide +kernel
theorem dX4_findReach_132 : decode cX4_findReach 132 = .ok (.iload_n 3, 1) := by decide +kernel
theorem dX4_findReach_133 : decode cX4_findReach 133 = .ok (.laload, 1) := by decide +kernel
theorem dX4_findReach_134 : decode cX4_findReach 134 = .ok (.lor, 1) := by decide +kernel
theorem dX4_findReach_135 : decode cX4_findReach 135 = .ok (.lastore, 1) := by decide +kernel
theorem dX4_findReach_136 : decode cX4_findReach 136 = .ok (.iconst 1, 1) := by decide +kernel
theorem dX4_findReach_137 : decode cX4_findReach 137 = .ok (.istore_n 1, 1) := by decide +kernel
theorem dX4_findReach_138 : decode cX4_findReach 138 = .ok (.iinc 3 1, 3) := by decide +kernel
theorem dX4_findReach_141 : decode cX4_findReach 141 = .ok (.goto (-91), 3) := by decide +kernel
theorem dX4_findReach_144 : decode cX4_findReach 144 = .ok (.iinc 2 1, 3) := by decide +kernel
theorem dX4_findReach_147 : decode cX4_findReach 147 = .ok (.goto (-107), 3) := by decide +kernel
theorem dX4_findReach_150 : decode cX4_findReach 150 = .ok (.goto (-118), 3) := by decide +kernel
theorem dX4_findReach_153 : decode cX4_findReach 153 = .ok (.return_, 1) := by decide +kernel
theorem dX4_findSets_0 : decode cX4_findSets 0 = .ok (.iconst 0, 1) := by decide +kernel
theorem dX4_findSets_1 : decode cX4_findSets 1 = .ok (.istore_n 1, 1) := by decide +kernel
theorem dX4_findSets_2 : decode cX4_findSets 2 = .ok (.iload_n 1, 1) := by decide +kernel
theorem dX4_findSets_3 : decode cX4_findSets 3 = .ok (.aload_n 0, 1) := by decide +kernel
theorem dX4_findSets_4 : decode cX4_findSets 4 = .ok (.getfield 63, 3) := by decide +kernel
theorem dX4_findSets_7 : decode cX4_findSets 7 = .ok (.if_icmp .ge 110, 3) := by decide +kernel
theorem dX4_findSets_10 : decode cX4_findSets 10 = .ok (.aload_n 0, 1) := by decide +kernel
theorem dX4_findSets_11 : decode cX4_findSets 11 = .ok (.getfield 41, 3) := by decide +kernel
theorem dX4_findSets_14 : decode cX4_findSets 14 = .ok (.iload_n 1, 1) := by decide +kernel
theorem dX4_findSets_15 : decode cX4_findSets 15 = .ok (.iconst 0, 1) := by decide +kernel
theorem dX4_findSets_16 : decode cX4_findSets 16 = .ok (.iastore, 1) := by decide +kernel
theorem dX4_findSets_17 : decode cX4_findSets 17 = .ok (.iconst 0, 1) := by decide +kernel
theorem dX4_findSets_18 : decode cX4_findSets 18 = .ok (.istore_n 2, 1) := by decide +kernel
theorem dX4_findSets_19 : decode cX4_findSets 19 = .ok (.iload_n 2, 1) := by decide +kernel
theorem dX4_findSets_20 : decode cX4_findSets 20 = .ok (.aload_n 0, 1) := by decide +kernel
theorem dX4_findSets_21 : decode cX4_findSets 21 = .ok (.getfield 63, 3) := by decide +kernel
theorem dX4_findSets_24 : decode cX4_findSets 24 = .ok (.if_icmp .ge 87, 3) := by decide +kernel
theorem dX4_findSets_27 : decode cX4_findSets 27 = .ok (.iconst 0, 1) := by decide +kernel
theorem dX4_findSets_28 : decode cX4_findSets 28 = .ok (.istore_n 3, 1) := by decide +kernel
theorem dX4_findSets_29 : decode cX4_findSets 29 = .ok (.iload_n 3, 1) := by decide +kernel
theorem dX4_findSets_30 : decode cX4_findSets 30 = .ok (.aload_n 0, 1) := by decide +kernel
theorem dX4_findSets_31 : decode cX4_findSets 31 = .ok (.getfield 66, 3) := by decide +kernel
theorem dX4_findSets_34 : decode cX4_findSets 34 = .ok (.if_icmp .ge 71, 3) := by decide +kernel
theorem dX4_findSets_37 : decode cX4_findSets 37 = .ok (.aload_n 0, 1) := by decide +kernel
theorem dX4_findSets_38 : decode cX4_findSets 38 = .ok (.getfield 37, 3) := by decide +kernel
theorem dX4_findSets_41 : decode cX4_findSets 41 = .ok (.iload_n 1, 1) := by decide +kernel
theorem dX4_findSets_42 : decode cX4_findSets 42 = .ok (.laload, 1) := by decide +kernel
theorem dX4_findSets_43 : decode cX4_findSets 43 = .ok (.aload_n 0, 1) := by decide +kernel
theorem dX4_findSets_44 : decode cX4_findSets 44 = .ok (.getfield 34, 3) := by decide +kernel
theorem dX4_findSets_47 : decode cX4_findSets 47 = .ok (.iload_n 2, 1) := by decide +kernel
theorem dX4_findSets_48 : decode cX4_findSets 48 = .ok (.iaload, 1) := by decide +kernel
theorem dX4_findSets_49 : decode cX4_findSets 49 = .ok (.lshr, 1) := by decide +kernel
theorem dX4_findSets_50 : decode cX4_findSets 50 = .ok (.lconst 1, 1) := by decide +kernel
theorem dX4_findSets_51 : decode cX4_findSets 51 = .ok (.land, 1) := by decide +kernel
theorem dX4_findSets_52 : decode cX4_findSets 52 = .ok (.lconst 1, 1) := by decide +kernel
theorem dX4_findSets_53 : decode cX4_findSets 53 = .ok (.lcmp, 1) := by decide +kernel
theorem dX4_findSets_54 : decode cX4_findSets 54 = .ok (.ifCond .ne 21, 3) := by decide +kernel
theorem dX4_findSets_57 : decode cX4_findSets 57 = .ok (.aload_n 0, 1) := by decide +kernel
theorem dX4_findSets_58 : decode cX4_findSets 58 = .ok (.getfield 16, 3) := by decide +kernel
theorem dX4_findSets_61 : decode cX4_findSets 61 = .ok (.bipush 32, 2) := by decide +kernel
theorem dX4_findSets_63 : decode cX4_findSets 63 = .ok (.iload_n 2, 1) := by decide +kernel
theorem dX4_findSets_64 : decode cX4_findSets 64 = .ok (.imul, 1) := by decide +kernel
theorem dX4_findSets_65 : decode cX4_findSets 65 = .ok (.iload_n 3, 1) := by decide +kernel
theorem dX4_findSets_66 : decode cX4_findSets 66 = .ok (.iadd, 1) := by decide +kernel
theorem dX4_findSets_67 : decode cX4_findSets 67 = .ok (.iaload, 1) := by decide +kernel
theorem dX4_findSets_68 : decode cX4_findSets 68 = .ok (.ifCond .le 7, 3) := by decide +kernel
theorem dX4_findSets_71 : decode cX4_findSets 71 = .ok (.iconst 1, 1) := by decide +kernel
theorem dX4_findSets_72 : decode cX4_findSets 72 = .ok (.goto 4, 3) := by decide +kernel
theorem dX4_findSets_75 : decode cX4_findSets 75 = .ok (.iconst 0, 1) := by decide +kernel
theorem dX4_findSets_76 : decode cX4_findSets 76 = .ok (.istore 4, 2) := by decide +kernel
theorem dX4_findSets_78 : decode cX4_findSets 78 = .ok (.aload_n 0, 1) := by decide +kernel
theorem dX4_findSets_79 : decode cX4_findSets 79 = .ok (.getfield 41, 3) := by decide +kernel
theorem dX4_findSets_82 : decode cX4_findSets 82 = .ok (.iload_n 1, 1) := by decide +kernel
theorem dX4_findSets_83 : decode cX4_findSets 83 = .ok (.dup2, 1) := by decide +kernel
theorem dX4_findSets_84 : decode cX4_findSets 84 = .ok (.iaload, 1) := by decide +kernel
theorem dX4_findSets_85 : decode cX4_findSets 85 = .ok (.iload 4, 2) := by decide +kernel
theorem dX4_findSets_87 : decode cX4_findSets 87 = .ok (.ifCond .eq 9, 3) := by decide +kernel
theorem dX4_findSets_90 : decode cX4_findSets 90 = .ok (.iconst 1, 1) := by decide +kernel
theorem dX4_findSets_91 : decode cX4_findSets 91 = .ok (.iload_n 3, 1) := by decide +kernel
theorem dX4_findSets_92 : decode cX4_findSets 92 = .ok (.ishl, 1) := by decide +kernel
theorem dX4_findSets_93 : decode cX4_findSets 93 = .ok (.goto 4, 3) := by decide +kernel
theorem dX4_findSets_96 : decode cX4_findSets 96 = .ok (.iconst 0, 1) := by decide +kernel
theorem dX4_findSets_97 : decode cX4_findSets 97 = .ok (.ior, 1) := by decide +kernel
theorem dX4_findSets_98 : decode cX4_findSets 98 = .ok (.iastore, 1) := by decide +kernel
theorem dX4_findSets_99 : decode cX4_findSets 99 = .ok (.iinc 3 1, 3) := by decide +kernel
theorem dX4_findSets_102 : decode cX4_findSets 102 = .ok (.goto (-73), 3) := by decide +kernel
theorem dX4_findSets_105 : decode cX4_findSets 105 = .ok (.iinc 2 1, 3) := by decide +kernel
theorem dX4_findSets_108 : decode cX4_findSets 108 = .ok (.goto (-89), 3) := by decide +kernel
theorem dX4_findSets_111 : decode cX4_findSets 111 = .ok (.iinc 1 1, 3) := by decide +kernel
theorem dX4_findSets_114 : decode cX4_findSets 114 = .ok (.goto (-112), 3) := by decide +kernel
theorem dX4_findSets_117 : decode cX4_findSets 117 = .ok (.return_, 1) := by decide +kernel
theorem dX4_findLevels_0 : decode cX4_findLevels 0 = .ok (.iconst 0, 1) := by decide +kernel
theorem dX4_findLevels_1 : decode cX4_findLevels 1 = .ok (.istore_n 1, 1) := by decide +kernel
theorem dX4_findLevels_2 : decode cX4_findLevels 2 = .ok (.iload_n 1, 1) := by decide +kernel
theorem dX4_findLevels_3 : decode cX4_findLevels 3 = .ok (.aload_n 0, 1) := by decide +kernel
theorem dX4_findLevels_4 : decode cX4_findLevels 4 = .ok (.getfield 63, 3) := by decide +kernel
theorem dX4_findLevels_7 : decode cX4_findLevels 7 = .ok (.if_icmp .ge 99, 3) := by decide +kernel
theorem dX4_findLevels_10 : decode cX4_findLevels 10 = .ok (.aload_n 0, 1) := by decide +kernel
theorem dX4_findLevels_11 : decode cX4_findLevels 11 = .ok (.getfield 44, 3) := by decide +kernel
theorem dX4_findLevels_14 : decode cX4_findLevels 14 = .ok (.iload_n 1, 1) := by decide +kernel
theorem dX4_findLevels_15 : decode cX4_findLevels 15 = .ok (.bipush 10, 2) := by decide +kernel
theorem dX4_findLevels_17 : decode cX4_findLevels 17 = .ok (.iastore, 1) := by decide +kernel
theorem dX4_findLevels_18 : decode cX4_findLevels 18 = .ok (.iconst 0, 1) := by decide +kernel
theorem dX4_findLevels_19 : decode cX4_findLevels 19 = .ok (.istore_n 2, 1) := by decide +kernel
theorem dX4_findLevels_20 : decode cX4_findLevels 20 = .ok (.iload_n 2, 1) := by decide +kernel
theorem dX4_findLevels_21 : decode cX4_findLevels 21 = .ok (.aload_n 0, 1) := by decide +kernel
theorem dX4_findLevels_22 : decode cX4_findLevels 22 = .ok (.getfield 63, 3) := by decide +kernel
theorem dX4_findLevels_25 : decode cX4_findLevels 25 = .ok (.if_icmp .ge 75, 3) := by decide +kernel
theorem dX4_findLevels_28 : decode cX4_findLevels 28 = .ok (.aload_n 0, 1) := by decide +kernel
theorem dX4_findLevels_29 : decode cX4_findLevels 29 = .ok (.getfield 37, 3) := by decide +kernel
theorem dX4_findLevels_32 : decode cX4_findLevels 32 = .ok (.iload_n 2, 1) := by decide +kernel
theorem dX4_findLevels_33 : decode cX4_findLevels 33 = .ok (.laload, 1) := by decide +kernel
theorem dX4_findLevels_34 : decode cX4_findLevels 34 = .ok (.aload_n 0, 1) := by decide +kernel
theorem dX4_findLevels_35 : decode cX4_findLevels 35 = .ok (.getfield 34, 3) := by decide +kernel
theorem dX4_findLevels_38 : decode cX4_findLevels 38 = .ok (.iload_n 1, 1) := by decide +kernel
theorem dX4_findLevels_39 : decode cX4_findLevels 39 = .ok (.iaload, 1) := by decide +kernel
theorem dX4_findLevels_40 : decode cX4_findLevels 40 = .ok (.lshr, 1) := by decide +kernel
theorem dX4_findLevels_41 : decode cX4_findLevels 41 = .ok (.lconst 1, 1) := by decide +kernel
theorem dX4_findLevels_42 : decode cX4_findLevels 42 = .ok (.land, 1) := by decide +kernel
theorem dX4_findLevels_43 : decode cX4_findLevels 43 = .ok (.lconst 1, 1) := by decide +kernel
theorem dX4_findLevels_44 : decode cX4_findLevels 44 = .ok (.lcmp, 1) := by decide +kernel
theorem dX4_findLevels_45 : decode cX4_findLevels 45 = .ok (.ifCond .ne 22, 3) := by decide +kernel
theorem dX4_findLevels_48 : decode cX4_findLevels 48 = .ok (.aload_n 0, 1) := by decide +kernel
theorem dX4_findLevels_49 : decode cX4_findLevels 49 = .ok (.getfield 7, 3) := by decide +kernel
theorem dX4_findLevels_52 : decode cX4_findLevels 52 = .ok (.iload_n 2, 1) := by decide +kernel
theorem dX4_findLevels_53 : decode cX4_findLevels 53 = .ok (.iaload, 1) := by decide +kernel
theorem dX4_findLevels_54 : decode cX4_findLevels 54 = .ok (.aload_n 0, 1) := by decide +kernel
theorem dX4_findLevels_55 : decode cX4_findLevels 55 = .ok (.getfield 44, 3) := by decide +kernel
theorem dX4_findLevels_58 : decode cX4_findLevels 58 = .ok (.iload_n 1, 1) := by decide +kernel
theorem dX4_findLevels_59 : decode cX4_findLevels 59 = .ok (.iaload, 1) := by decide +kernel
theorem dX4_findLevels_60 : decode cX4_findLevels 60 = .ok (.if_icmp .ge 7, 3) := by decide +kernel
theorem dX4_findLevels_63 : decode cX4_findLevels 63 = .ok (.iconst 1, 1) := by decide +kernel
theorem dX4_findLevels_64 : decode cX4_findLevels 64 = .ok (.goto 4, 3) := by decide +kernel
theorem dX4_findLevels_67 : decode cX4_findLevels 67 = .ok (.iconst 0, 1) := by decide +kernel
theorem dX4_findLevels_68 : decode cX4_findLevels 68 = .ok (.istore_n 3, 1) := by decide +kernel
theorem dX4_findLevels_69 : decode cX4_findLevels 69 = .ok (.aload_n 0, 1) := by decide +kernel
theorem dX4_findLevels_70 : decode cX4_findLevels 70 = .ok (.getfield 44, 3) := by decide +kernel
theorem dX4_findLevels_73 : decode cX4_findLevels 73 = .ok (.iload_n 1, 1) := by decide +kernel
theorem dX4_findLevels_74 : decode cX4_findLevels 74 = .ok (.iload_n 3, 1) := by decide +kernel
theorem dX4_findLevels_75 : decode cX4_findLevels 75 = .ok (.ifCond .eq 12, 3) := by decide +kernel
theorem dX4_findLevels_78 : decode cX4_findLevels 78 = .ok (.aload_n 0, 1) := by decide +kernel
theorem dX4_findLevels_79 : decode cX4_findLevels 79 = .ok (.getfield 7, 3) := by decide +kernel
theorem dX4_findLevels_82 : decode cX4_findLevels 82 = .ok (.iload_n 2, 1) := by decide +kernel
theorem dX4_findLevels_83 : decode cX4_findLevels 83 = .ok (.iaload, 1) := by decide +kernel
theorem dX4_findLevels_84 : decode cX4_findLevels 84 = .ok (.goto 9, 3) := by decide +kernel
theorem dX4_findLevels_87 : decode cX4_findLevels 87 = .ok (.aload_n 0, 1) := by decide +kernel
theorem dX4_findLevels_88 : decode cX4_findLevels 88 = .ok (.getfield 44, 3) := by decide +kernel
theorem dX4_findLevels_91 : decode cX4_findLevels 91 = .ok (.iload_n 1, 1) := by decide +kernel
theorem dX4_findLevels_92 : decode cX4_findLevels 92 = .ok (.iaload, 1) := by decide +kernel
theorem dX4_findLevels_93 : decode cX4_findLevels 93 = .ok (.iastore, 1) := by decide +kernel
theorem dX4_findLevels_94 : decode cX4_findLevels 94 = .ok (.iinc 2 1, 3) := by decide +kernel
theorem dX4_findLevels_97 : decode cX4_findLevels 97 = .ok (.goto (-77), 3) := by decide +kernel
theorem dX4_findLevels_100 : decode cX4_findLevels 100 = .ok (.iinc 1 1, 3) := by decide +kernel
theorem dX4_findLevels_103 : decode cX4_findLevels 103 = .ok (.goto (-101), 3) := by decide +kernel
theorem dX4_findLevels_106 : decode cX4_findLevels 106 = .ok (.iconst 0, 1) := by decide +kernel
theorem dX4_findLevels_107 : decode cX4_findLevels 107 = .ok (.istore_n 1, 1) := by decide +kernel
theorem dX4_findLevels_108 : decode cX4_findLevels 108 = .ok (.iload_n 1, 1) := by decide +kernel
theorem dX4_findLevels_109 : decode cX4_findLevels 109 = .ok (.aload_n 0, 1) := by decide +kernel
theorem dX4_findLevels_110 : decode cX4_findLevels 110 = .ok (.getfield 66, 3) := by decide +kernel
theorem dX4_findLevels_113 : decode cX4_findLevels 113 = .ok (.if_icmp .ge 97, 3) := by decide +kernel
theorem dX4_findLevels_116 : decode cX4_findLevels 116 = .ok (.aload_n 0, 1) := by decide +kernel
theorem dX4_findLevels_117 : decode cX4_findLevels 117 = .ok (.getfield 47, 3) := by decide +kernel
theorem dX4_findLevels_120 : decode cX4_findLevels 120 = .ok (.iload_n 1, 1) := by decide +kernel
theorem dX4_findLevels_121 : decode cX4_findLevels 121 = .ok (.aload_n 0, 1) := by decide +kernel
theorem dX4_findLevels_122 : decode cX4_findLevels 122 = .ok (.getfield 13, 3) := by decide +kernel
theorem dX4_findLevels_125 : decode cX4_findLevels 125 = .ok (.iload_n 1, 1) := by decide +kernel
theorem dX4_findLevels_126 : decode cX4_findLevels 126 = .ok (.iaload, 1) := by decide +kernel
theorem dX4_findLevels_127 : decode cX4_findLevels 127 = .ok (.iastore, 1) := by decide +kernel
theorem dX4_findLevels_128 : decode cX4_findLevels 128 = .ok (.iconst 0, 1) := by decide +kernel
theorem dX4_findLevels_129 : decode cX4_findLevels 129 = .ok (.istore_n 2, 1) := by decide +kernel
theorem dX4_findLevels_130 : decode cX4_findLevels 130 = .ok (.iload_n 2, 1) := by decide +kernel
theorem dX4_findLevels_131 : decode cX4_findLevels 131 = .ok (.aload_n 0, 1) := by decide +kernel
theorem dX4_findLevels_132 : decode cX4_findLevels 132 = .ok (.getfield 63, 3) := by decide +kernel
theorem dX4_findLevels_135 : decode cX4_findLevels 135 = .ok (.if_icmp .ge 69, 3) := by decide +kernel
theorem dX4_findLevels_138 : decode cX4_findLevels 138 = .ok (.aload_n 0, 1) := by decide +kernel
theorem dX4_findLevels_139 : decode cX4_findLevels 139 = .ok (.getfield 16, 3) := by decide +kernel
theorem dX4_findLevels_142 : decode cX4_findLevels 142 = .ok (.bipush 32, 2) := by decide +kernel
theorem dX4_findLevels_144 : decode cX4_findLevels 144 = .ok (.iload_n 2, 1) := by decide +kernel
theorem dX4_findLevels_145 : decode cX4_findLevels 145 = .ok (.imul, 1) := by decide +kernel
theorem dX4_findLevels_146 : decode cX4_findLevels 146 = .ok (.iload_n 1, 1) := by decide +kernel
theorem dX4_findLevels_147 : decode cX4_findLevels 147 = .ok (.iadd, 1) := by decide +kernel
theorem dX4_findLevels_148 : decode cX4_findLevels 148 = .ok (.iaload, 1) := by decide +kernel
theorem dX4_findLevels_149 : decode cX4_findLevels 149 = .ok (.ifCond .le 22, 3) := by decide +kernel
theorem dX4_findLevels_152 : decode cX4_findLevels 152 = .ok (.aload_n 0, 1) := by decide +kernel
theorem dX4_findLevels_153 : decode cX4_findLevels 153 = .ok (.getfield 44, 3) := by decide +kernel
theorem dX4_findLevels_156 : decode cX4_findLevels 156 = .ok (.iload_n 2, 1) := by decide +kernel
theorem dX4_findLevels_157 : decode cX4_findLevels 157 = .ok (.iaload, 1) := by decide +kernel
theorem dX4_findLevels_158 : decode cX4_findLevels 158 = .ok (.aload_n 0, 1) := by decide +kernel
theorem dX4_findLevels_159 : decode cX4_findLevels 159 = .ok (.getfield 47, 3) := by decide +kernel
theorem dX4_findLevels_162 : decode cX4_findLevels 162 = .ok (.iload_n 1, 1) := by decide +kernel
theorem dX4_findLevels_163 : decode cX4_findLevels 163 = .ok (.iaload, 1) := by decide +kernel
theorem dX4_findLevels_164 : decode cX4_findLevels 164 = .ok (.if_icmp .ge 7, 3) := by decide +kernel
theorem dX4_findLevels_167 : decode cX4_findLevels 167 = .ok (.iconst 1, 1) := by decide +kernel
theorem dX4_findLevels_168 : decode cX4_findLevels 168 = .ok (.goto 4, 3) := by decide +kernel
theorem dX4_findLevels_171 : decode cX4_findLevels 171 = .ok (.iconst 0, 1) := by decide +kernel
theorem dX4_findLevels_172 : decode cX4_findLevels 172 = .ok (.istore_n 3, 1) := by decide +kernel
theorem dX4_findLevels_173 : decode cX4_findLevels 173 = .ok (.aload_n 0, 1) := by decide +kernel
theorem dX4_findLevels_174 : decode cX4_findLevels 174 = .ok (.getfield 47, 3) := by decide +kernel
theorem dX4_findLevels_177 : decode cX4_findLevels 177 = .ok (.iload_n 1, 1) := by decide +kernel
theorem dX4_findLevels_178 : decode cX4_findLevels 178 = .ok (.iload_n 3, 1) := by decide +kernel
theorem dX4_findLevels_179 : decode cX4_findLevels 179 = .ok (.ifCond .eq 12, 3) := by decide +kernel
theorem dX4_findLevels_182 : decode cX4_findLevels 182 = .ok (.aload_n 0, 1) := by decide +kernel
theorem dX4_findLevels_183 : decode cX4_findLevels 183 = .ok (.getfield 44, 3) := by decide +kernel
theorem dX4_findLevels_186 : decode cX4_findLevels 186 = .ok (.iload_n 2, 1) := by decide +kernel
theorem dX4_findLevels_187 : decode cX4_findLevels 187 = .ok (.iaload, 1) := by decide +kernel
theorem dX4_findLevels_188 : decode cX4_findLevels 188 = .ok (.goto 9, 3) := by decide +kernel
theorem dX4_findLevels_191 : decode cX4_findLevels 191 = .ok (.aload_n 0, 1) := by decide +kernel
theorem dX4_findLevels_192 : decode cX4_findLevels 192 = .ok (.getfield 47, 3) := by decide +kernel
theorem dX4_findLevels_195 : decode cX4_findLevels 195 = .ok (.iload_n 1, 1) := by decide +kernel
theorem dX4_findLevels_196 : decode cX4_findLevels 196 = .ok (.iaload, 1) := by decide +kernel
theorem dX4_findLevels_197 : decode cX4_findLevels 197 = .ok (.iastore, 1) := by decide +kernel
theorem dX4_findLevels_198 : decode cX4_findLevels 198 = .ok (.iinc 2 1, 3) := by decide +kernel
theorem dX4_findLevels_201 : decode cX4_findLevels 201 = .ok (.goto (-71), 3) := by decide +kernel
theorem dX4_findLevels_204 : decode cX4_findLevels 204 = .ok (.iinc 1 1, 3) := by decide +kernel
theorem dX4_findLevels_207 : decode cX4_findLevels 207 = .ok (.goto (-99), 3) := by decide +kernel
theorem dX4_findLevels_210 : decode cX4_findLevels 210 = .ok (.return_, 1) := by decide +kernel
set_option maxRecDepth 20000 in
theorem ggX4_workOut_X4_findNodes : GoodIn wsX4_workOut wsX4_findNodes := goodIn_r _ [5, 6, 7, 8, 31, 32, 33, 34, 35, 36, 37, 38, 39, 40, 41, 42, 43, 44, 45, 46, 47, 48, 49, 50, 51] (by decide +kernel) (by decide +kernel)
set_option maxRecDepth 20000 in
theorem gX4_workOut_X4_findNodes : GoodIn wsX4_workOut (wsV RX4 71 RX4 yX4_findNodes wsX4_findNodes) := goodIn_app (goodIn_of _ (by decide +kernel)) ggX4_workOut_X4_findNodes
set_option maxRecDepth 20000 in
theorem ggX4_workOut_X4_findReach : GoodIn wsX4_workOut wsX4_findReach := goodIn_r _ [12, 6, 13, 7, 14, 15, 31, 32, 33, 34, 35, 36, 37, 38, 39, 40, 41, 42, 43, 44, 45, 46, 47, 48, 49, 50, 51] (by decide +kernel) (by decide +kernel)
set_option maxRecDepth 20000 in
theorem gX4_workOut_X4_findReach : GoodIn wsX4_workOut (wsV RX4 74 RX4 yX4_findReach wsX4_findReach) := goodIn_app (goodIn_of _ (by decide +kernel)) ggX4_workOut_X4_findReach
set_option maxRecDepth 20000 in
theorem ggX4_workOut_X4_findSets : GoodIn wsX4_workOut wsX4_findSets := goodIn_r _ [19, 6, 20, 21, 13, 7, 22, 31, 32, 33, 34, 35, 36, 37, 38, 39, 40, 41, 42, 43, 44, 45, 46, 47, 48, 49, 50, 51] (by decide +kernel) (by decide +kernel)
set_option maxRecDepth 20000 in
theorem gX4_workOut_X4_findSets : GoodIn wsX4_workOut (wsV RX4 77 RX4 yX4_findSets wsX4_findSets) := goodIn_app (goodIn_of _ (by decide +kernel)) ggX4_workOut_X4_findSets
set_option maxRecDepth 20000 in
theorem ggX4_workOut_X4_findLevels : GoodIn wsX4_workOut wsX4_findLevels := goodIn_r _ [26, 6, 27, 13, 7, 28, 21, 29, 30, 22, 31, 32, 33, 34, 35, 36, 37, 38, 39, 40, 41, 42, 43, 44, 45, 46, 47, 48, 49, 50, 51] (by decide +kernel) (by decide +kernel)
set_option maxRecDepth 20000 in
theorem gX4_workOut_X4_findLevels : GoodIn wsX4_workOut (wsV RX4 80 RX4 yX4_findLevels wsX4_findLevels) := goodIn_app (goodIn_of _ (by decide +kernel)) ggX4_workOut_X4_findLevels
theorem dX4_workOut_0 : decode cX4_workOut 0 = .ok (.aload_n 0, 1) := by decide +kernel
theorem dX4_workOut_1 : decode cX4_workOut 1 = .ok (.invokevirtual 71, 3) := by decide +kernel
theorem dX4_workOut_4 : decode cX4_workOut 4 = .ok (.aload_n 0, 1) := by decide +kernel
theorem dX4_workOut_5 : decode cX4_workOut 5 = .ok (.invokevirtual 74, 3) := by decide +kernel
theorem dX4_workOut_8 : decode cX4_workOut 8 = .ok (.aload_n 0, 1) := by decide +kernel
theorem dX4_workOut_9 : decode cX4_workOut 9 = .ok (.invokevirtual 77, 3) := by decide +kernel
theorem dX4_workOut_12 : decode cX4_workOut 12 = .ok (.aload_n 0, 1) := by decide +kernel
theorem dX4_workOut_13 : decode cX4_workOut 13 = .ok (.invokevirtual 80, 3) := by decide +kernel
theorem dX4_workOut_16 : decode cX4_workOut 16 = .ok (.return_, 1) := by decide +kernel
theorem dX4_size_0 : decode cX4_size 0 = .ok (.iconst 0, 1) := by decide +kernel
theorem dX4_size_1 : decode cX4_size 1 = .ok (.istore_n 2, 1) := by decide +kernel
theorem dX4_size_2 : decode cX4_size 2 = .ok (.iconst 0, 1) := by decide +kernel
theorem dX4_size_3 : decode cX4_size 3 = .ok (.istore_n 3, 1) := by decide +kernel
theorem dX4_size_4 : decode cX4_size 4 = .ok (.iload_n 3, 1) := by decide +kernel
theorem dX4_size_5 : decode cX4_size 5 = .ok (.bipush 32, 2) := by decide +kernel
theorem dX4_size_7 : decode cX4_size 7 = .ok (.if_icmp .ge 17, 3) := by decide +kernel
theorem dX4_size_10 : decode cX4_size 10 = .ok (.iload_n 2, 1) := by decide +kernel
theorem dX4_size_11 : decode cX4_size 11 = .ok (.iload_n 1, 1) := by decide +kernel
theorem dX4_size_12 : decode cX4_size 12 = .ok (.iload_n 3, 1) := by decide +kernel
theorem dX4_size_13 : decode cX4_size 13 = .ok (.ishr, 1) := by decide +kernel
theorem dX4_size_14 : decode cX4_size 14 = .ok (.iconst 1, 1) := by decide +kernel
theorem dX4_size_15 : decode cX4_size 15 = .ok (.iand, 1) := by decide +kernel
theorem dX4_size_16 : decode cX4_size 16 = .ok (.iadd, 1) := by decide +kernel
theorem dX4_size_17 : decode cX4_size 17 = .ok (.istore_n 2, 1) := by decide +kernel
theorem dX4_size_18 : decode cX4_size 18 = .ok (.iinc 3 1, 3) := by decide +kernel
theorem dX4_size_21 : decode cX4_size 21 = .ok (.goto (-17), 3) := by decide +kernel
theorem dX4_size_24 : decode cX4_size 24 = .ok (.iload_n 2, 1) := by decide +kernel
theorem dX4_size_25 : decode cX4_size 25 = .ok (.ireturn, 1) := by decide +kernel
set_option maxRecDepth 20000 in
theorem ggX4_inSets_X4_size : GoodIn wsX4_inSets wsX4_size := goodIn_r _ [7] (by decide +kernel) (by decide +kernel)
set_option maxRecDepth 20000 in
theorem gX4_inSets_X4_size : GoodIn wsX4_inSets (wsV RX4 83 RX4 yX4_size wsX4_size) := goodIn_app (goodIn_of _ (by decide +kernel)) ggX4_inSets_X4_size
theorem dX4_inSets_0 : decode cX4_inSets 0 = .ok (.iconst 0, 1) := by decide +kernel
theorem dX4_inSets_1 : decode cX4_inSets 1 = .ok (.istore_n 1, 1) := by decide +kernel
theorem dX4_inSets_2 : decode cX4_inSets 2 = .ok (.iconst 0, 1) := by decide +kernel
theorem dX4_inSets_3 : decode cX4_inSets 3 = .ok (.istore_n 2, 1) := by decide +kernel
theorem dX4_inSets_4 : decode cX4_inSets 4 = .ok (.iload_n 2, 1) := by decide +kernel
theorem dX4_inSets_5 : decode cX4_inSets 5 = .ok (.aload_n 0, 1) := by decide +kernel
theorem dX4_inSets_6 : decode cX4_inSets 6 = .ok (.getfield 63, 3) := by decide +kernel
theorem dX4_inSets_9 : decode cX4_inSets 9 = .ok (.if_icmp .ge 22, 3) := by decide +kernel
theorem dX4_inSets_12 : decode cX4_inSets 12 = .ok (.iload_n 1, 1) := by decide +kernel
theorem dX4_inSets_13 : decode cX4_inSets 13 = .ok (.aload_n 0, 1) := by decide +kernel
theorem dX4_inSets_14 : decode cX4_inSets 14 = .ok (.aload_n 0, 1) := by decide +kernel
theorem dX4_inSets_15 : decode cX4_inSets 15 = .ok (.getfield 41, 3) := by decide +kernel
theorem dX4_inSets_18 : decode cX4_inSets 18 = .ok (.iload_n 2, 1) := by decide +kernel
theorem dX4_inSets_19 : decode cX4_inSets 19 = .ok (.iaload, 1) := by decide +kernel
theorem dX4_inSets_20 : decode cX4_inSets 20 = .ok (.invokevirtual 83, 3) := by decide +kernel
theorem dX4_inSets_23 : decode cX4_inSets 23 = .ok (.iadd, 1) := by decide +kernel
theorem dX4_inSets_24 : decode cX4_inSets 24 = .ok (.istore_n 1, 1) := by decide +kernel
theorem dX4_inSets_25 : decode cX4_inSets 25 = .ok (.iinc 2 1, 3) := by decide +kernel
theorem dX4_inSets_28 : decode cX4_inSets 28 = .ok (.goto (-24), 3) := by decide +kernel
theorem dX4_inSets_31 : decode cX4_inSets 31 = .ok (.iload_n 1, 1) := by decide +kernel
theorem dX4_inSets_32 : decode cX4_inSets 32 = .ok (.ireturn, 1) := by decide +kernel
set_option maxRecDepth 20000 in
theorem ggX4_variable_X4_goes : GoodIn wsX4_variable wsX4_goes := goodIn_r _ [6, 7, 13, 14, 15, 16, 17, 18, 19, 20, 21, 22, 23, 24, 25, 26, 27, 28, 29, 30, 31, 32, 33] (by decide +kernel) (by decide +kernel)
set_option maxRecDepth 20000 in
theorem gX4_variable_X4_goes : GoodIn wsX4_variable (wsV RX4 87 RX4 yX4_goes wsX4_goes) := goodIn_app (goodIn_of _ (by decide +kernel)) ggX4_variable_X4_goes
set_option maxRecDepth 20000 in
theorem ggX4_variable_X4_newVariable : GoodIn wsX4_variable wsX4_newVariable := goodIn_r _ [11, 12, 1, 13, 14, 15, 16, 17, 18, 19, 20, 21, 22, 23, 24, 25, 26, 27, 28, 29, 30, 31, 32, 33] (by decide +kernel) (by decide +kernel)
set_option maxRecDepth 20000 in
theorem gX4_variable_X4_newVariable : GoodIn wsX4_variable (wsV RX4 91 RX4 yX4_newVariable wsX4_newVariable) := goodIn_app (goodIn_of _ (by decide +kernel)) ggX4_variable_X4_newVariable
theorem dX4_variable_0 : decode cX4_variable 0 = .ok (.aload_n 0, 1) := by decide +kernel
theorem dX4_variable_1 : decode cX4_variable 1 = .ok (.iload_n 1, 1) := by decide +kernel
theorem dX4_variable_2 : decode cX4_variable 2 = .ok (.ifCond .lt 13, 3) := by decide +kernel
theorem dX4_variable_5 : decode cX4_variable 5 = .ok (.iload_n 1, 1) := by decide +kernel
theorem dX4_variable_6 : decode cX4_variable 6 = .ok (.bipush 10, 2) := by decide +kernel
theorem dX4_variable_8 : decode cX4_variable 8 = .ok (.if_icmp .ge 7, 3) := by decide +kernel
theorem dX4_variable_11 : decode cX4_variable 11 = .ok (.iconst 1, 1) := by decide +kernel
theorem dX4_variable_12 : decode cX4_variable 12 = .ok (.goto 4, 3) := by decide +kernel
theorem dX4_variable_15 : decode cX4_variable 15 = .ok (.iconst 0, 1) := by decide +kernel
theorem dX4_variable_16 : decode cX4_variable 16 = .ok (.iconst 1, 1) := by decide +kernel
theorem dX4_variable_17 : decode cX4_variable 17 = .ok (.invokevirtual 87, 3) := by decide +kernel
theorem dX4_variable_20 : decode cX4_variable 20 = .ok (.ifCond .ne 5, 3) := by decide +kernel
theorem dX4_variable_23 : decode cX4_variable 23 = .ok (.iconst 0, 1) := by decide +kernel
theorem dX4_variable_24 : decode cX4_variable 24 = .ok (.ireturn, 1) := by decide +kernel
theorem dX4_variable_25 : decode cX4_variable 25 = .ok (.aload_n 0, 1) := by decide +kernel
theorem dX4_variable_26 : decode cX4_variable 26 = .ok (.getfield 63, 3) := by decide +kernel
theorem dX4_variable_29 : decode cX4_variable 29 = .ok (.bipush 60, 2) := by decide +kernel
theorem dX4_variable_31 : decode cX4_variable 31 = .ok (.if_icmp .ne 7, 3) := by decide +kernel
theorem dX4_variable_34 : decode cX4_variable 34 = .ok (.iconst (-1), 1) := by decide +kernel
theorem dX4_variable_35 : decode cX4_variable 35 = .ok (.goto 8, 3) := by decide +kernel
theorem dX4_variable_38 : decode cX4_variable 38 = .ok (.aload_n 0, 1) := by decide +kernel
theorem dX4_variable_39 : decode cX4_variable 39 = .ok (.iload_n 1, 1) := by decide +kernel
theorem dX4_variable_40 : decode cX4_variable 40 = .ok (.invokevirtual 91, 3) := by decide +kernel
theorem dX4_variable_43 : decode cX4_variable 43 = .ok (.ireturn, 1) := by decide +kernel
theorem dX4_newVariable_0 : decode cX4_newVariable 0 = .ok (.aload_n 0, 1) := by decide +kernel
theorem dX4_newVariable_1 : decode cX4_newVariable 1 = .ok (.getfield 7, 3) := by decide +kernel
theorem dX4_newVariable_4 : decode cX4_newVariable 4 = .ok (.aload_n 0, 1) := by decide +kernel
theorem dX4_newVariable_5 : decode cX4_newVariable 5 = .ok (.getfield 63, 3) := by decide +kernel
theorem dX4_newVariable_8 : decode cX4_newVariable 8 = .ok (.iload_n 1, 1) := by decide +kernel
theorem dX4_newVariable_9 : decode cX4_newVariable 9 = .ok (.iastore, 1) := by decide +kernel
theorem dX4_newVariable_10 : decode cX4_newVariable 10 = .ok (.aload_n 0, 1) := by decide +kernel
theorem dX4_newVariable_11 : decode cX4_newVariable 11 = .ok (.dup, 1) := by decide +kernel
theorem dX4_newVariable_12 : decode cX4_newVariable 12 = .ok (.getfield 63, 3) := by decide +kernel
theorem dX4_newVariable_15 : decode cX4_newVariable 15 = .ok (.iconst 1, 1) := by decide +kernel
theorem dX4_newVariable_16 : decode cX4_newVariable 16 = .ok (.iadd, 1) := by decide +kernel
theorem dX4_newVariable_17 : decode cX4_newVariable 17 = .ok (.putfield 63, 3) := by decide +kernel
theorem dX4_newVariable_20 : decode cX4_newVariable 20 = .ok (.aload_n 0, 1) := by decide +kernel
theorem dX4_newVariable_21 : decode cX4_newVariable 21 = .ok (.getfield 63, 3) := by decide +kernel
theorem dX4_newVariable_24 : decode cX4_newVariable 24 = .ok (.iconst 1, 1) := by decide +kernel
theorem dX4_newVariable_25 : decode cX4_newVariable 25 = .ok (.isub, 1) := by decide +kernel
theorem dX4_newVariable_26 : decode cX4_newVariable 26 = .ok (.ireturn, 1) := by decide +kernel
set_option maxRecDepth 20000 in
theorem ggX4_atom_X4_goes : GoodIn wsX4_atom wsX4_goes := goodIn_r _ [6, 7, 13, 14, 15, 16, 17, 18, 19, 20, 21, 22, 23, 24, 25, 26, 27, 28, 29, 30, 31, 32, 33] (by decide +kernel) (by decide +kernel)
set_option maxRecDepth 20000 in
theorem gX4_atom_X4_goes : GoodIn wsX4_atom (wsV RX4 87 RX4 yX4_goes wsX4_goes) := goodIn_app (goodIn_of _ (by decide +kernel)) ggX4_atom_X4_goes
set_option maxRecDepth 20000 in
theorem ggX4_atom_X4_newAtom : GoodIn wsX4_atom wsX4_newAtom := goodIn_r _ [11, 12, 1, 13, 14, 15, 16, 17, 18, 19, 20, 21, 22, 23, 24, 25, 26, 27, 28, 29, 30, 31, 32, 33] (by decide +kernel) (by decide +kernel)
set_option maxRecDepth 20000 in
theorem gX4_atom_X4_newAtom : GoodIn wsX4_atom (wsV RX4 94 RX4 yX4_newAtom wsX4_newAtom) := goodIn_app (goodIn_of _ (by decide +kernel)) ggX4_atom_X4_newAtom
theorem dX4_atom_0 : decode cX4_atom 0 = .ok (.aload_n 0, 1) := by decide +kernel
