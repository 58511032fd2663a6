theorem dX4_atom_1 : decode cX4_atom 1 = .ok (.iload_n 1, 1) := by decide +kernel
theorem dX4_atom_2 : decode cX4_atom 2 = .ok (.ifCond .lt 13, 3) := by decide +kernel
theorem dX4_atom_5 : decode cX4_atom 5 = .ok (.iload_n 1, 1) := by decide +kernel
theorem dX4_atom_6 : decode cX4_atom 6 = .ok (.bipush 10, 2) := by decide +kernel
theorem dX4_atom_8 : decode cX4_atom 8 = .ok (.if_icmp .ge 7, 3) := by decide +kernel
theorem dX4_atom_11 : decode cX4_atom 11 = .ok (.iconst 1, 1) := by decide +kernel
theorem dX4_atom_12 : decode cX4_atom 12 = .ok (.goto 4, 3) := by decide +kernel
theorem dX4_atom_15 : decode cX4_atom 15 = .ok (.iconst 0, 1) := by decide +kernel
theorem dX4_atom_16 : decode cX4_atom 16 = .ok (.iconst 1, 1) := by decide +kernel
theorem dX4_atom_17 : decode cX4_atom 17 = .ok (.invokevirtual 87, 3) := by decide +kernel
theorem dX4_atom_20 : decode cX4_atom 20 = .ok (.ifCond .ne 5, 3) := by decide +kernel
theorem dX4_atom_23 : decode cX4_atom 23 = .ok (.iconst 0, 1) := by decide +kernel
theorem dX4_atom_24 : decode cX4_atom 24 = .ok (.ireturn, 1) := by decide +kernel
theorem dX4_atom_25 : decode cX4_atom 25 = .ok (.aload_n 0, 1) := by decide +kernel
theorem dX4_atom_26 : decode cX4_atom 26 = .ok (.getfield 66, 3) := by decide +kernel
theorem dX4_atom_29 : decode cX4_atom 29 = .ok (.bipush 32, 2) := by decide +kernel
theorem dX4_atom_31 : decode cX4_atom 31 = .ok (.if_icmp .ne 7, 3) := by decide +kernel
theorem dX4_atom_34 : decode cX4_atom 34 = .ok (.iconst (-1), 1) := by decide +kernel
theorem dX4_atom_35 : decode cX4_atom 35 = .ok (.goto 8, 3) := by decide +kernel
theorem dX4_atom_38 : decode cX4_atom 38 = .ok (.aload_n 0, 1) := by decide +kernel
theorem dX4_atom_39 : decode cX4_atom 39 = .ok (.iload_n 1, 1) := by decide +kernel
theorem dX4_atom_40 : decode cX4_atom 40 = .ok (.invokevirtual 94, 3) := by decide +kernel
theorem dX4_atom_43 : decode cX4_atom 43 = .ok (.ireturn, 1) := by decide +kernel
theorem dX4_newAtom_0 : decode cX4_newAtom 0 = .ok (.aload_n 0, 1) := by decide +kernel
theorem dX4_newAtom_1 : decode cX4_newAtom 1 = .ok (.getfield 13, 3) := by decide +kernel
theorem dX4_newAtom_4 : decode cX4_newAtom 4 = .ok (.aload_n 0, 1) := by decide +kernel
theorem dX4_newAtom_5 : decode cX4_newAtom 5 = .ok (.getfield 66, 3) := by decide +kernel
theorem dX4_newAtom_8 : decode cX4_newAtom 8 = .ok (.iload_n 1, 1) := by decide +kernel
theorem dX4_newAtom_9 : decode cX4_newAtom 9 = .ok (.iastore, 1) := by decide +kernel
theorem dX4_newAtom_10 : decode cX4_newAtom 10 = .ok (.aload_n 0, 1) := by decide +kernel
theorem dX4_newAtom_11 : decode cX4_newAtom 11 = .ok (.dup, 1) := by decide +kernel
theorem dX4_newAtom_12 : decode cX4_newAtom 12 = .ok (.getfield 66, 3) := by decide +kernel
theorem dX4_newAtom_15 : decode cX4_newAtom 15 = .ok (.iconst 1, 1) := by decide +kernel
theorem dX4_newAtom_16 : decode cX4_newAtom 16 = .ok (.iadd, 1) := by decide +kernel
theorem dX4_newAtom_17 : decode cX4_newAtom 17 = .ok (.putfield 66, 3) := by decide +kernel
theorem dX4_newAtom_20 : decode cX4_newAtom 20 = .ok (.aload_n 0, 1) := by decide +kernel
theorem dX4_newAtom_21 : decode cX4_newAtom 21 = .ok (.getfield 66, 3) := by decide +kernel
theorem dX4_newAtom_24 : decode cX4_newAtom 24 = .ok (.iconst 1, 1) := by decide +kernel
theorem dX4_newAtom_25 : decode cX4_newAtom 25 = .ok (.isub, 1) := by decide +kernel
theorem dX4_newAtom_26 : decode cX4_newAtom 26 = .ok (.ireturn, 1) := by decide +kernel
theorem dX4_tell_0 : decode cX4_tell 0 = .ok (.aload_n 1, 1) := by decide +kernel
theorem dX4_tell_1 : decode cX4_tell 1 = .ok (.iload_n 2, 1) := by decide +kernel
theorem dX4_tell_2 : decode cX4_tell 2 = .ok (.iaload, 1) := by decide +kernel
theorem dX4_tell_3 : decode cX4_tell 3 = .ok (.ifCond .ne 20, 3) := by decide +kernel
theorem dX4_tell_6 : decode cX4_tell 6 = .ok (.aload_n 0, 1) := by decide +kernel
theorem dX4_tell_7 : decode cX4_tell 7 = .ok (.dup, 1) := by decide +kernel
theorem dX4_tell_8 : decode cX4_tell 8 = .ok (.getfield 97, 3) := by decide +kernel
theorem dX4_tell_11 : decode cX4_tell 11 = .ok (.iconst 1, 1) := by decide +kernel
theorem dX4_tell_12 : decode cX4_tell 12 = .ok (.iadd, 1) := by decide +kernel
theorem dX4_tell_13 : decode cX4_tell 13 = .ok (.putfield 97, 3) := by decide +kernel
theorem dX4_tell_16 : decode cX4_tell 16 = .ok (.aload_n 1, 1) := by decide +kernel
theorem dX4_tell_17 : decode cX4_tell 17 = .ok (.iload_n 2, 1) := by decide +kernel
theorem dX4_tell_18 : decode cX4_tell 18 = .ok (.aload_n 0, 1) := by decide +kernel
theorem dX4_tell_19 : decode cX4_tell 19 = .ok (.getfield 97, 3) := by decide +kernel
theorem dX4_tell_22 : decode cX4_tell 22 = .ok (.iastore, 1) := by decide +kernel
theorem dX4_tell_23 : decode cX4_tell 23 = .ok (.return_, 1) := by decide +kernel
theorem dX4_tellOne_0 : decode cX4_tellOne 0 = .ok (.iload_n 1, 1) := by decide +kernel
theorem dX4_tellOne_1 : decode cX4_tellOne 1 = .ok (.iload_n 2, 1) := by decide +kernel
theorem dX4_tellOne_2 : decode cX4_tellOne 2 = .ok (.if_icmp .eq 57, 3) := by decide +kernel
theorem dX4_tellOne_5 : decode cX4_tellOne 5 = .ok (.aload_n 0, 1) := by decide +kernel
theorem dX4_tellOne_6 : decode cX4_tellOne 6 = .ok (.getfield 22, 3) := by decide +kernel
theorem dX4_tellOne_9 : decode cX4_tellOne 9 = .ok (.bipush 60, 2) := by decide +kernel
theorem dX4_tellOne_11 : decode cX4_tellOne 11 = .ok (.iload_n 1, 1) := by decide +kernel
theorem dX4_tellOne_12 : decode cX4_tellOne 12 = .ok (.imul, 1) := by decide +kernel
theorem dX4_tellOne_13 : decode cX4_tellOne 13 = .ok (.iload_n 2, 1) := by decide +kernel
theorem dX4_tellOne_14 : decode cX4_tellOne 14 = .ok (.iadd, 1) := by decide +kernel
theorem dX4_tellOne_15 : decode cX4_tellOne 15 = .ok (.iaload, 1) := by decide +kernel
theorem dX4_tellOne_16 : decode cX4_tellOne 16 = .ok (.ifCond .ne 43, 3) := by decide +kernel
theorem dX4_tellOne_19 : decode cX4_tellOne 19 = .ok (.aload_n 0, 1) := by decide +kernel
theorem dX4_tellOne_20 : decode cX4_tellOne 20 = .ok (.dup, 1) := by decide +kernel
theorem dX4_tellOne_21 : decode cX4_tellOne 21 = .ok (.getfield 97, 3) := by decide +kernel
theorem dX4_tellOne_24 : decode cX4_tellOne 24 = .ok (.iconst 1, 1) := by decide +kernel
theorem dX4_tellOne_25 : decode cX4_tellOne 25 = .ok (.iadd, 1) := by decide +kernel
theorem dX4_tellOne_26 : decode cX4_tellOne 26 = .ok (.putfield 97, 3) := by decide +kernel
theorem dX4_tellOne_29 : decode cX4_tellOne 29 = .ok (.aload_n 0, 1) := by decide +kernel
theorem dX4_tellOne_30 : decode cX4_tellOne 30 = .ok (.getfield 22, 3) := by decide +kernel
theorem dX4_tellOne_33 : decode cX4_tellOne 33 = .ok (.bipush 60, 2) := by decide +kernel
theorem dX4_tellOne_35 : decode cX4_tellOne 35 = .ok (.iload_n 1, 1) := by decide +kernel
theorem dX4_tellOne_36 : decode cX4_tellOne 36 = .ok (.imul, 1) := by decide +kernel
theorem dX4_tellOne_37 : decode cX4_tellOne 37 = .ok (.iload_n 2, 1) := by decide +kernel
theorem dX4_tellOne_38 : decode cX4_tellOne 38 = .ok (.iadd, 1) := by decide +kernel
theorem dX4_tellOne_39 : decode cX4_tellOne 39 = .ok (.aload_n 0, 1) := by decide +kernel
theorem dX4_tellOne_40 : decode cX4_tellOne 40 = .ok (.getfield 97, 3) := by decide +kernel
theorem dX4_tellOne_43 : decode cX4_tellOne 43 = .ok (.iastore, 1) := by decide +kernel
theorem dX4_tellOne_44 : decode cX4_tellOne 44 = .ok (.aload_n 0, 1) := by decide +kernel
theorem dX4_tellOne_45 : decode cX4_tellOne 45 = .ok (.getfield 22, 3) := by decide +kernel
theorem dX4_tellOne_48 : decode cX4_tellOne 48 = .ok (.bipush 60, 2) := by decide +kernel
theorem dX4_tellOne_50 : decode cX4_tellOne 50 = .ok (.iload_n 2, 1) := by decide +kernel
theorem dX4_tellOne_51 : decode cX4_tellOne 51 = .ok (.imul, 1) := by decide +kernel
theorem dX4_tellOne_52 : decode cX4_tellOne 52 = .ok (.iload_n 1, 1) := by decide +kernel
theorem dX4_tellOne_53 : decode cX4_tellOne 53 = .ok (.iadd, 1) := by decide +kernel
theorem dX4_tellOne_54 : decode cX4_tellOne 54 = .ok (.aload_n 0, 1) := by decide +kernel
theorem dX4_tellOne_55 : decode cX4_tellOne 55 = .ok (.getfield 97, 3) := by decide +kernel
theorem dX4_tellOne_58 : decode cX4_tellOne 58 = .ok (.iastore, 1) := by decide +kernel
theorem dX4_tellOne_59 : decode cX4_tellOne 59 = .ok (.return_, 1) := by decide +kernel
set_option maxRecDepth 20000 in
theorem ggX4_has_X4_isVariable : GoodIn wsX4_has wsX4_isVariable := goodIn_r _ [6, 7, 61, 62, 63, 64, 65, 66, 67, 68, 69, 70, 71, 72, 73, 74, 75, 76, 77, 78, 79, 80, 81] (by decide +kernel) (by decide +kernel)
set_option maxRecDepth 20000 in
theorem gX4_has_X4_isVariable : GoodIn wsX4_has (wsV RX4 100 RX4 yX4_isVariable wsX4_isVariable) := goodIn_app (goodIn_of _ (by decide +kernel)) ggX4_has_X4_isVariable
set_option maxRecDepth 20000 in
theorem ggX4_has_X4_isAtom : GoodIn wsX4_has wsX4_isAtom := goodIn_r _ [11, 12, 61, 62, 63, 64, 65, 66, 67, 68, 69, 70, 71, 72, 73, 74, 75, 76, 77, 78, 79, 80, 81] (by decide +kernel) (by decide +kernel)
set_option maxRecDepth 20000 in
theorem gX4_has_X4_isAtom : GoodIn wsX4_has (wsV RX4 104 RX4 yX4_isAtom wsX4_isAtom) := goodIn_app (goodIn_of _ (by decide +kernel)) ggX4_has_X4_isAtom
set_option maxRecDepth 20000 in
theorem ggX4_has_X4_goes : GoodIn wsX4_has wsX4_goes := goodIn_r _ [16, 17, 61, 62, 63, 64, 65, 66, 67, 68, 69, 70, 71, 72, 73, 74, 75, 76, 77, 78, 79, 80, 81] (by decide +kernel) (by decide +kernel)
set_option maxRecDepth 20000 in
theorem gX4_has_X4_goes : GoodIn wsX4_has (wsV RX4 87 RX4 yX4_goes wsX4_goes) := goodIn_app (goodIn_of _ (by decide +kernel)) ggX4_has_X4_goes
set_option maxRecDepth 20000 in
theorem ggX4_has_X4_workOut : GoodIn wsX4_has wsX4_workOut := goodIn_r _ [21, 22, 23, 24, 5, 25, 7, 26, 27, 28, 29, 30, 31, 32, 33, 34, 35, 36, 37, 38, 39, 12, 1, 40, 41, 42, 43, 44, 45, 46, 47, 61, 62, 63, 64, 65, 66, 67, 68, 69, 70, 71, 72, 73, 74, 75, 76, 77, 78, 79, 80, 81] (by decide +kernel) (by decide +kernel)
set_option maxRecDepth 20000 in
theorem gX4_has_X4_workOut : GoodIn wsX4_has (wsV RX4 107 RX4 yX4_workOut wsX4_workOut) := goodIn_app (goodIn_of _ (by decide +kernel)) ggX4_has_X4_workOut
set_option maxRecDepth 20000 in
theorem ggX4_has_X4_inSets : GoodIn wsX4_has wsX4_inSets := goodIn_r _ [51, 7, 39, 52, 53, 54, 5, 55, 61, 62, 63, 64, 65, 66, 67, 68, 69, 70, 71, 72, 73, 74, 75, 76, 77, 78, 79, 80, 81] (by decide +kernel) (by decide +kernel)
set_option maxRecDepth 20000 in
theorem gX4_has_X4_inSets : GoodIn wsX4_has (wsV RX4 110 RX4 yX4_inSets wsX4_inSets) := goodIn_app (goodIn_of _ (by decide +kernel)) ggX4_has_X4_inSets
set_option maxRecDepth 20000 in
theorem ggX4_has_X4_tell : GoodIn wsX4_has wsX4_tell := goodIn_r _ [59, 60, 61, 62, 63, 64, 65, 66, 67, 68, 69, 70, 71, 72, 73, 74, 75, 76, 77, 78, 79, 80, 81] (by decide +kernel) (by decide +kernel)
set_option maxRecDepth 20000 in
theorem gX4_has_X4_tell : GoodIn wsX4_has (wsV RX4 114 RX4 yX4_tell wsX4_tell) := goodIn_app (goodIn_of _ (by decide +kernel)) ggX4_has_X4_tell
theorem dX4_has_0 : decode cX4_has 0 = .ok (.aload_n 0, 1) := by decide +kernel
theorem dX4_has_1 : decode cX4_has 1 = .ok (.aload_n 0, 1) := by decide +kernel
theorem dX4_has_2 : decode cX4_has 2 = .ok (.iload_n 1, 1) := by decide +kernel
theorem dX4_has_3 : decode cX4_has 3 = .ok (.invokevirtual 100, 3) := by decide +kernel
theorem dX4_has_6 : decode cX4_has 6 = .ok (.ifCond .eq 15, 3) := by decide +kernel
theorem dX4_has_9 : decode cX4_has 9 = .ok (.aload_n 0, 1) := by decide +kernel
theorem dX4_has_10 : decode cX4_has 10 = .ok (.iload_n 2, 1) := by decide +kernel
theorem dX4_has_11 : decode cX4_has 11 = .ok (.invokevirtual 104, 3) := by decide +kernel
theorem dX4_has_14 : decode cX4_has 14 = .ok (.ifCond .eq 7, 3) := by decide +kernel
theorem dX4_has_17 : decode cX4_has 17 = .ok (.iconst 1, 1) := by decide +kernel
theorem dX4_has_18 : decode cX4_has 18 = .ok (.goto 4, 3) := by decide +kernel
theorem dX4_has_21 : decode cX4_has 21 = .ok (.iconst 0, 1) := by decide +kernel
theorem dX4_has_22 : decode cX4_has 22 = .ok (.iconst 1, 1) := by decide +kernel
theorem dX4_has_23 : decode cX4_has 23 = .ok (.invokevirtual 87, 3) := by decide +kernel
theorem dX4_has_26 : decode cX4_has 26 = .ok (.ifCond .ne 5, 3) := by decide +kernel
theorem dX4_has_29 : decode cX4_has 29 = .ok (.iconst 0, 1) := by decide +kernel
theorem dX4_has_30 : decode cX4_has 30 = .ok (.ireturn, 1) := by decide +kernel
theorem dX4_has_31 : decode cX4_has 31 = .ok (.aload_n 0, 1) := by decide +kernel
theorem dX4_has_32 : decode cX4_has 32 = .ok (.invokevirtual 107, 3) := by decide +kernel
theorem dX4_has_35 : decode cX4_has 35 = .ok (.aload_n 0, 1) := by decide +kernel
theorem dX4_has_36 : decode cX4_has 36 = .ok (.invokevirtual 110, 3) := by decide +kernel
theorem dX4_has_39 : decode cX4_has 39 = .ok (.istore_n 3, 1) := by decide +kernel
theorem dX4_has_40 : decode cX4_has 40 = .ok (.aload_n 0, 1) := by decide +kernel
theorem dX4_has_41 : decode cX4_has 41 = .ok (.aload_n 0, 1) := by decide +kernel
theorem dX4_has_42 : decode cX4_has 42 = .ok (.getfield 16, 3) := by decide +kernel
theorem dX4_has_45 : decode cX4_has 45 = .ok (.bipush 32, 2) := by decide +kernel
theorem dX4_has_47 : decode cX4_has 47 = .ok (.iload_n 1, 1) := by decide +kernel
theorem dX4_has_48 : decode cX4_has 48 = .ok (.imul, 1) := by decide +kernel
theorem dX4_has_49 : decode cX4_has 49 = .ok (.iload_n 2, 1) := by decide +kernel
theorem dX4_has_50 : decode cX4_has 50 = .ok (.iadd, 1) := by decide +kernel
theorem dX4_has_51 : decode cX4_has 51 = .ok (.invokevirtual 114, 3) := by decide +kernel
theorem dX4_has_54 : decode cX4_has 54 = .ok (.aload_n 0, 1) := by decide +kernel
theorem dX4_has_55 : decode cX4_has 55 = .ok (.invokevirtual 107, 3) := by decide +kernel
theorem dX4_has_58 : decode cX4_has 58 = .ok (.aload_n 0, 1) := by decide +kernel
theorem dX4_has_59 : decode cX4_has 59 = .ok (.invokevirtual 110, 3) := by decide +kernel
theorem dX4_has_62 : decode cX4_has 62 = .ok (.iload_n 3, 1) := by decide +kernel
theorem dX4_has_63 : decode cX4_has 63 = .ok (.isub, 1) := by decide +kernel
theorem dX4_has_64 : decode cX4_has 64 = .ok (.ireturn, 1) := by decide +kernel
set_option maxRecDepth 20000 in
theorem ggX4_includes_X4_isVariable : GoodIn wsX4_includes wsX4_isVariable := goodIn_r _ [6, 7, 57, 58, 59, 60, 61, 62, 63, 64, 65, 66, 67, 68, 69, 70, 71, 72, 73, 74, 75, 76, 77] (by decide +kernel) (by decide +kernel)
set_option maxRecDepth 20000 in
theorem gX4_includes_X4_isVariable : GoodIn wsX4_includes (wsV RX4 100 RX4 yX4_isVariable wsX4_isVariable) := goodIn_app (goodIn_of _ (by decide +kernel)) ggX4_includes_X4_isVariable
set_option maxRecDepth 20000 in
theorem ggX4_includes_X4_goes : GoodIn wsX4_includes wsX4_goes := goodIn_r _ [11, 12, 57, 58, 59, 60, 61, 62, 63, 64, 65, 66, 67, 68, 69, 70, 71, 72, 73, 74, 75, 76, 77] (by decide +kernel) (by decide +kernel)
set_option maxRecDepth 20000 in
theorem gX4_includes_X4_goes : GoodIn wsX4_includes (wsV RX4 87 RX4 yX4_goes wsX4_goes) := goodIn_app (goodIn_of _ (by decide +kernel)) ggX4_includes_X4_goes
set_option maxRecDepth 20000 in
theorem ggX4_includes_X4_workOut : GoodIn wsX4_includes wsX4_workOut := goodIn_r _ [16, 17, 18, 19, 5, 20, 7, 21, 22, 23, 24, 25, 26, 27, 1, 28, 29, 30, 31, 32, 33, 34, 35, 36, 37, 38, 39, 40, 41, 42, 43, 57, 58, 59, 60, 61, 62, 63, 64, 65, 66, 67, 68, 69, 70, 71, 72, 73, 74, 75, 76, 77] (by decide +kernel) (by decide +kernel)
set_option maxRecDepth 20000 in
theorem gX4_includes_X4_workOut : GoodIn wsX4_includes (wsV RX4 107 RX4 yX4_workOut wsX4_workOut) := goodIn_app (goodIn_of _ (by decide +kernel)) ggX4_includes_X4_workOut
set_option maxRecDepth 20000 in
theorem ggX4_includes_X4_inSets : GoodIn wsX4_includes wsX4_inSets := goodIn_r _ [47, 7, 33, 48, 49, 50, 5, 51, 57, 58, 59, 60, 61, 62, 63, 64, 65, 66, 67, 68, 69, 70, 71, 72, 73, 74, 75, 76, 77] (by decide +kernel) (by decide +kernel)
set_option maxRecDepth 20000 in
theorem gX4_includes_X4_inSets : GoodIn wsX4_includes (wsV RX4 110 RX4 yX4_inSets wsX4_inSets) := goodIn_app (goodIn_of _ (by decide +kernel)) ggX4_includes_X4_inSets
set_option maxRecDepth 20000 in
theorem ggX4_includes_X4_tell : GoodIn wsX4_includes wsX4_tell := goodIn_r _ [55, 56, 57, 58, 59, 60, 61, 62, 63, 64, 65, 66, 67, 68, 69, 70, 71, 72, 73, 74, 75, 76, 77] (by decide +kernel) (by decide +kernel)
set_option maxRecDepth 20000 in
theorem gX4_includes_X4_tell : GoodIn wsX4_includes (wsV RX4 114 RX4 yX4_tell wsX4_tell) := goodIn_app (goodIn_of _ (by decide +kernel)) ggX4_includes_X4_tell
theorem dX4_includes_0 : decode cX4_includes 0 = .ok (.aload_n 0, 1) := by decide +kernel
theorem dX4_includes_1 : decode cX4_includes 1 = .ok (.aload_n 0, 1) := by decide +kernel
theorem dX4_includes_2 : decode cX4_includes 2 = .ok (.iload_n 1, 1) := by decide +kernel
theorem dX4_includes_3 : decode cX4_includes 3 = .ok (.invokevirtual 100, 3) := by decide +kernel
theorem dX4_includes_6 : decode cX4_includes 6 = .ok (.ifCond .eq 15, 3) := by decide +kernel
theorem dX4_includes_9 : decode cX4_includes 9 = .ok (.aload_n 0, 1) := by decide +kernel
theorem dX4_includes_10 : decode cX4_includes 10 = .ok (.iload_n 2, 1) := by decide +kernel
theorem dX4_includes_11 : decode cX4_includes 11 = .ok (.invokevirtual 100, 3) := by decide +kernel
theorem dX4_includes_14 : decode cX4_includes 14 = .ok (.ifCond .eq 7, 3) := by decide +kernel
theorem dX4_includes_17 : decode cX4_includes 17 = .ok (.iconst 1, 1) := by decide +kernel
theorem dX4_includes_18 : decode cX4_includes 18 = .ok (.goto 4, 3) := by decide +kernel
theorem dX4_includes_21 : decode cX4_includes 21 = .ok (.iconst 0, 1) := by decide +kernel
theorem dX4_includes_22 : decode cX4_includes 22 = .ok (.iconst 1, 1) := by decide +kernel
theorem dX4_includes_23 : decode cX4_includes 23 = .ok (.invokevirtual 87, 3) := by decide +kernel
theorem dX4_includes_26 : decode cX4_includes 26 = .ok (.ifCond .ne 5, 3) := by decide +kernel
theorem dX4_includes_29 : decode cX4_includes 29 = .ok (.iconst 0, 1) := by decide +kernel
theorem dX4_includes_30 : decode cX4_includes 30 = .ok (.ireturn, 1) := by decide +kernel
theorem dX4_includes_31 : decode cX4_includes 31 = .ok (.aload_n 0, 1) := by decide +kernel
theorem dX4_includes_32 : decode cX4_includes 32 = .ok (.invokevirtual 107, 3) := by decide +kernel
theorem dX4_includes_35 : decode cX4_includes 35 = .ok (.aload_n 0, 1) := by decide +kernel
theorem dX4_includes_36 : decode cX4_includes 36 = .ok (.invokevirtual 110, 3) := by decide +kernel
theorem dX4_includes_39 : decode cX4_includes 39 = .ok (.istore_n 3, 1) := by decide +kernel
theorem dX4_includes_40 : decode cX4_includes 40 = .ok (.aload_n 0, 1) := by decide +kernel
theorem dX4_includes_41 : decode cX4_includes 41 = .ok (.aload_n 0, 1) := by decide +kernel
theorem dX4_includes_42 : decode cX4_includes 42 = .ok (.getfield 19, 3) := by decide +kernel
theorem dX4_includes_45 : decode cX4_includes 45 = .ok (.bipush 60, 2) := by decide +kernel
theorem dX4_includes_47 : decode cX4_includes 47 = .ok (.iload_n 1, 1) := by decide +kernel
theorem dX4_includes_48 : decode cX4_includes 48 = .ok (.imul, 1) := by decide +kernel
theorem dX4_includes_49 : decode cX4_includes 49 = .ok (.iload_n 2, 1) := by decide +kernel
theorem dX4_includes_50 : decode cX4_includes 50 = .ok (.iadd, 1) := by decide +kernel
theorem dX4_includes_51 : decode cX4_includes 51 = .ok (.invokevirtual 114, 3) := by decide +kernel
theorem dX4_includes_54 : decode cX4_includes 54 = .ok (.aload_n 0, 1) := by decide +kernel
theorem dX4_includes_55 : decode cX4_includes 55 = .ok (.invokevirtual 107, 3) := by decide +kernel
theorem dX4_includes_58 : decode cX4_includes 58 = .ok (.aload_n 0, 1) := by decide +kernel
theorem dX4_includes_59 : decode cX4_includes 59 = .ok (.invokevirtual 110, 3) := by decide +kernel
theorem dX4_includes_62 : decode cX4_includes 62 = .ok (.iload_n 3, 1) := by decide +kernel
theorem dX4_includes_63 : decode cX4_includes 63 = .ok (.isub, 1) := by decide +kernel
theorem dX4_includes_64 : decode cX4_includes 64 = .ok (.ireturn, 1) := by decide +kernel
set_option maxRecDepth 20000 in
theorem ggX4_one_X4_isVariable : GoodIn wsX4_one wsX4_isVariable := goodIn_r _ [5, 6, 57, 58, 59, 60, 61, 62, 63, 64, 65, 66, 67, 68, 69, 70, 71, 72, 73, 74, 75, 76, 77] (by decide +kernel) (by decide +kernel)
set_option maxRecDepth 20000 in
theorem gX4_one_X4_isVariable : GoodIn wsX4_one (wsV RX4 100 RX4 yX4_isVariable wsX4_isVariable) := goodIn_app (goodIn_of _ (by decide +kernel)) ggX4_one_X4_isVariable
set_option maxRecDepth 20000 in
theorem ggX4_one_X4_goes : GoodIn wsX4_one wsX4_goes := goodIn_r _ [10, 11, 57, 58, 59, 60, 61, 62, 63, 64, 65, 66, 67, 68, 69, 70, 71, 72, 73, 74, 75, 76, 77] (by decide +kernel) (by decide +kernel)
set_option maxRecDepth 20000 in
theorem gX4_one_X4_goes : GoodIn wsX4_one (wsV RX4 87 RX4 yX4_goes wsX4_goes) := goodIn_app (goodIn_of _ (by decide +kernel)) ggX4_one_X4_goes
set_option maxRecDepth 20000 in
theorem ggX4_one_X4_workOut : GoodIn wsX4_one wsX4_workOut := goodIn_r _ [15, 16, 17, 18, 4, 19, 6, 20, 21, 22, 23, 24, 25, 26, 27, 28, 29, 30, 31, 32, 33, 34, 35, 36, 37, 38, 39, 40, 41, 42, 43, 57, 58, 59, 60, 61, 62, 63, 64, 65, 66, 67, 68, 69, 70, 71, 72, 73, 74, 75, 76, 77] (by decide +kernel) (by decide +kernel)
set_option maxRecDepth 20000 in
theorem gX4_one_X4_workOut : GoodIn wsX4_one (wsV RX4 107 RX4 yX4_workOut wsX4_workOut) := goodIn_app (goodIn_of _ (by decide +kernel)) ggX4_one_X4_workOut
set_option maxRecDepth 20000 in
theorem ggX4_one_X4_inSets : GoodIn wsX4_one wsX4_inSets := goodIn_r _ [47, 6, 33, 48, 49, 50, 4, 51, 57, 58, 59, 60, 61, 62, 63, 64, 65, 66, 67, 68, 69, 70, 71, 72, 73, 74, 75, 76, 77] (by decide +kernel) (by decide +kernel)
set_option maxRecDepth 20000 in
theorem gX4_one_X4_inSets : GoodIn wsX4_one (wsV RX4 110 RX4 yX4_inSets wsX4_inSets) := goodIn_app (goodIn_of _ (by decide +kernel)) ggX4_one_X4_inSets
set_option maxRecDepth 20000 in
theorem ggX4_one_X4_tellOne : GoodIn wsX4_one wsX4_tellOne := goodIn_r _ [55, 21, 56, 57, 58, 59, 60, 61, 62, 63, 64, 65, 66, 67, 68, 69, 70, 71, 72, 73, 74, 75, 76, 77] (by decide +kernel) (by decide +kernel)
set_option maxRecDepth 20000 in
theorem gX4_one_X4_tellOne : GoodIn wsX4_one (wsV RX4 118 RX4 yX4_tellOne wsX4_tellOne) := goodIn_app (goodIn_of _ (by decide +kernel)) ggX4_one_X4_tellOne
theorem dX4_one_0 : decode cX4_one 0 = .ok (.aload_n 0, 1) := by decide +kernel
theorem dX4_one_1 : decode cX4_one 1 = .ok (.aload_n 0, 1) := by decide +kernel
theorem dX4_one_2 : decode cX4_one 2 = .ok (.iload_n 1, 1) := by decide +kernel
theorem dX4_one_3 : decode cX4_one 3 = .ok (.invokevirtual 100, 3) := by decide +kernel
theorem dX4_one_6 : decode cX4_one 6 = .ok (.ifCond .eq 15, 3) := by decide +kernel
theorem dX4_one_9 : decode cX4_one 9 = .ok (.aload_n 0, 1) := by decide +kernel
theorem dX4_one_10 : decode cX4_one 10 = .ok (.iload_n 2, 1) := by decide +kernel
theorem dX4_one_11 : decode cX4_one 11 = .ok (.invokevirtual 100, 3) := by decide +kernel
theorem dX4_one_14 : decode cX4_one 14 = .ok (.ifCond .eq 7, 3) := by decide +kernel
theorem dX4_one_17 : decode cX4_one 17 = .ok (.iconst 1, 1) := by decide +kernel
theorem dX4_one_18 : decode cX4_one 18 = .ok (.goto 4, 3) := by decide +kernel
theorem dX4_one_21 : decode cX4_one 21 = .ok (.iconst 0, 1) := by decide +kernel
theorem dX4_one_22 : decode cX4_one 22 = .ok (.iconst 1, 1) := by decide +kernel
theorem dX4_one_23 : decode cX4_one 23 = .ok (.invokevirtual 87, 3) := by decide +kernel
theorem dX4_one_26 : decode cX4_one 26 = .ok (.ifCond .ne 5, 3) := by decide +kernel
theorem dX4_one_29 : decode cX4_one 29 = .ok (.iconst 0, 1) := by decide +kernel
theorem dX4_one_30 : decode cX4_one 30 = .ok (.ireturn, 1) := by decide +kernel
theorem dX4_one_31 : decode cX4_one 31 = .ok (.aload_n 0, 1) := by decide +kernel
theorem dX4_one_32 : decode cX4_one 32 = .ok (.invokevirtual 107, 3) := by decide +kernel
theorem dX4_one_35 : decode cX4_one 35 = .ok (.aload_n 0, 1) := by decide +kernel
theorem dX4_one_36 : decode cX4_one 36 = .ok (.invokevirtual 110, 3) := by decide +kernel
theorem dX4_one_39 : decode cX4_one 39 = .ok (.istore_n 3, 1) := by decide +kernel
theorem dX4_one_40 : decode cX4_one 40 = .ok (.aload_n 0, 1) := by decide +kernel
theorem dX4_one_41 : decode cX4_one 41 = .ok (.iload_n 1, 1) := by decide +kernel
theorem dX4_one_42 : decode cX4_one 42 = .ok (.iload_n 2, 1) := by decide +kernel
theorem dX4_one_43 : decode cX4_one 43 = .ok (.invokevirtual 118, 3) := by decide +kernel
theorem dX4_one_46 : decode cX4_one 46 = .ok (.aload_n 0, 1) := by decide +kernel
theorem dX4_one_47 : decode cX4_one 47 = .ok (.invokevirtual 107, 3) := by decide +kernel
theorem dX4_one_50 : decode cX4_one 50 = .ok (.aload_n 0, 1) := by decide +kernel
theorem dX4_one_51 : decode cX4_one 51 = .ok (.invokevirtual 110, 3) := by decide +kernel
theorem dX4_one_54 : decode cX4_one 54 = .ok (.iload_n 3, 1) := by decide +kernel
theorem dX4_one_55 : decode cX4_one 55 = .ok (.isub, 1) := by decide +kernel
theorem dX4_one_56 : decode cX4_one 56 = .ok (.ireturn, 1) := by decide +kernel
theorem dX4_ring_0 : decode cX4_ring 0 = .ok (.iconst 0, 1) := by decide +kernel
theorem dX4_ring_1 : decode cX4_ring 1 = .ok (.istore_n 2, 1) := by decide +kernel
theorem dX4_ring_2 : decode cX4_ring 2 = .ok (.aload_n 0, 1) := by decide +kernel
theorem dX4_ring_3 : decode cX4_ring 3 = .ok (.getfield 37, 3) := by decide +kernel
theorem dX4_ring_6 : decode cX4_ring 6 = .ok (.iload_n 2, 1) := by decide +kernel
theorem dX4_ring_7 : decode cX4_ring 7 = .ok (.laload, 1) := by decide +kernel
theorem dX4_ring_8 : decode cX4_ring 8 = .ok (.aload_n 0, 1) := by decide +kernel
theorem dX4_ring_9 : decode cX4_ring 9 = .ok (.getfield 34, 3) := by decide +kernel
theorem dX4_ring_12 : decode cX4_ring 12 = .ok (.iload_n 1, 1) := by decide +kernel
theorem dX4_ring_13 : decode cX4_ring 13 = .ok (.iaload, 1) := by decide +kernel
theorem dX4_ring_14 : decode cX4_ring 14 = .ok (.lshr, 1) := by decide +kernel
theorem dX4_ring_15 : decode cX4_ring 15 = .ok (.lconst 1, 1) := by decide +kernel
theorem dX4_ring_16 : decode cX4_ring 16 = .ok (.land, 1) := by decide +kernel
theorem dX4_ring_17 : decode cX4_ring 17 = .ok (.lconst 0, 1) := by decide +kernel
theorem dX4_ring_18 : decode cX4_ring 18 = .ok (.lcmp, 1) := by decide +kernel
theorem dX4_ring_19 : decode cX4_ring 19 = .ok (.ifCond .eq 23, 3) := by decide +kernel
theorem dX4_ring_22 : decode cX4_ring 22 = .ok (.aload_n 0, 1) := by decide +kernel
theorem dX4_ring_23 : decode cX4_ring 23 = .ok (.getfield 37, 3) := by decide +kernel
theorem dX4_ring_26 : decode cX4_ring 26 = .ok (.iload_n 1, 1) := by decide +kernel
theorem dX4_ring_27 : decode cX4_ring 27 = .ok (.laload, 1) := by decide +kernel
theorem dX4_ring_28 : decode cX4_ring 28 = .ok (.aload_n 0, 1) := by decide +kernel
theorem dX4_ring_29 : decode cX4_ring 29 = .ok (.getfield 34, 3) := by decide +kernel
theorem dX4_ring_32 : decode cX4_ring 32 = .ok (.iload_n 2, 1) := by decide +kernel
theorem dX4_ring_33 : decode cX4_ring 33 = .ok (.iaload, 1) := by decide +kernel
theorem dX4_ring_34 : decode cX4_ring 34 = .ok (.lshr, 1) := by decide +kernel
theorem dX4_ring_35 : decode cX4_ring 35 = .ok (.lconst 1, 1) := by decide +kernel
theorem dX4_ring_36 : decode cX4_ring 36 = .ok (.land, 1) := by decide +kernel
theorem dX4_ring_37 : decode cX4_ring 37 = .ok (.lconst 0, 1) := by decide +kernel
theorem dX4_ring_38 : decode cX4_ring 38 = .ok (.lcmp, 1) := by decide +kernel
theorem dX4_ring_39 : decode cX4_ring 39 = .ok (.ifCond .ne 9, 3) := by decide +kernel
theorem dX4_ring_42 : decode cX4_ring 42 = .ok (.iinc 2 1, 3) := by decide +kernel
theorem dX4_ring_45 : decode cX4_ring 45 = .ok (.goto (-43), 3) := by decide +kernel
theorem dX4_ring_48 : decode cX4_ring 48 = .ok (.aload_n 0, 1) := by decide +kernel
theorem dX4_ring_49 : decode cX4_ring 49 = .ok (.getfield 34, 3) := by decide +kernel
theorem dX4_ring_52 : decode cX4_ring 52 = .ok (.iload_n 2, 1) := by decide +kernel
theorem dX4_ring_53 : decode cX4_ring 53 = .ok (.iaload, 1) := by decide +kernel
theorem dX4_ring_54 : decode cX4_ring 54 = .ok (.ireturn, 1) := by decide +kernel
set_option maxRecDepth 20000 in
theorem ggX4_shrink_X4_workOut : GoodIn wsX4_shrink wsX4_workOut := goodIn_r _ [8, 9, 10, 11, 7, 12, 2, 3, 13, 14, 15, 16, 17, 18, 19, 20, 21, 22, 23, 24, 25, 26, 27, 28, 29, 30, 31, 32, 33, 34, 35, 45, 46, 47, 48, 49, 50, 51, 52, 53, 54, 55, 56, 57, 58, 59, 60, 61, 62, 63, 64, 65] (by decide +kernel) (by decide +kernel)
set_option maxRecDepth 20000 in
theorem gX4_shrink_X4_workOut : GoodIn wsX4_shrink (wsV RX4 107 RX4 yX4_workOut wsX4_workOut) := goodIn_app (goodIn_of _ (by decide +kernel)) ggX4_shrink_X4_workOut
set_option maxRecDepth 20000 in
theorem ggX4_shrink_X4_ring : GoodIn wsX4_shrink wsX4_ring := goodIn_r _ [39, 18, 3, 45, 46, 47, 48, 49, 50, 51, 52, 53, 54, 55, 56, 57, 58, 59, 60, 61, 62, 63, 64, 65] (by decide +kernel) (by decide +kernel)
set_option maxRecDepth 20000 in
theorem gX4_shrink_X4_ring : GoodIn wsX4_shrink (wsV RX4 122 RX4 yX4_ring wsX4_ring) := goodIn_app (goodIn_of _ (by decide +kernel)) ggX4_shrink_X4_ring
set_option maxRecDepth 20000 in
theorem ggX4_shrink_X4_tellOne : GoodIn wsX4_shrink wsX4_tellOne := goodIn_r _ [43, 13, 44, 45, 46, 47, 48, 49, 50, 51, 52, 53, 54, 55, 56, 57, 58, 59, 60, 61, 62, 63, 64, 65] (by decide +kernel) (by decide +kernel)
set_option maxRecDepth 20000 in
theorem gX4_shrink_X4_tellOne : GoodIn wsX4_shrink (wsV RX4 118 RX4 yX4_tellOne wsX4_tellOne) := goodIn_app (goodIn_of _ (by decide +kernel)) ggX4_shrink_X4_tellOne
theorem dX4_shrink_0 : decode cX4_shrink 0 = .ok (.aload_n 0, 1) := by decide +kernel
theorem dX4_shrink_1 : decode cX4_shrink 1 = .ok (.iconst 0, 1) := by decide +kernel
theorem dX4_shrink_2 : decode cX4_shrink 2 = .ok (.putfield 59, 3) := by decide +kernel
theorem dX4_shrink_5 : decode cX4_shrink 5 = .ok (.aload_n 0, 1) := by decide +kernel
theorem dX4_shrink_6 : decode cX4_shrink 6 = .ok (.invokevirtual 107, 3) := by decide +kernel
theorem dX4_shrink_9 : decode cX4_shrink 9 = .ok (.iconst 0, 1) := by decide +kernel
theorem dX4_shrink_10 : decode cX4_shrink 10 = .ok (.istore_n 1, 1) := by decide +kernel
theorem dX4_shrink_11 : decode cX4_shrink 11 = .ok (.iconst 0, 1) := by decide +kernel
theorem dX4_shrink_12 : decode cX4_shrink 12 = .ok (.istore_n 2, 1) := by decide +kernel
theorem dX4_shrink_13 : decode cX4_shrink 13 = .ok (.iload_n 2, 1) := by decide +kernel
theorem dX4_shrink_14 : decode cX4_shrink 14 = .ok (.aload_n 0, 1) := by decide +kernel
theorem dX4_shrink_15 : decode cX4_shrink 15 = .ok (.getfield 63, 3) := by decide +kernel
theorem dX4_shrink_18 : decode cX4_shrink 18 = .ok (.if_icmp .ge 58, 3) := by decide +kernel
theorem dX4_shrink_21 : decode cX4_shrink 21 = .ok (.iconst 0, 1) := by decide +kernel
theorem dX4_shrink_22 : decode cX4_shrink 22 = .ok (.istore_n 3, 1) := by decide +kernel
theorem dX4_shrink_23 : decode cX4_shrink 23 = .ok (.iload_n 3, 1) := by decide +kernel
theorem dX4_shrink_24 : decode cX4_shrink 24 = .ok (.aload_n 0, 1) := by decide +kernel
theorem dX4_shrink_25 : decode cX4_shrink 25 = .ok (.getfield 63, 3) := by decide +kernel
theorem dX4_shrink_28 : decode cX4_shrink 28 = .ok (.if_icmp .ge 42, 3) := by decide +kernel
theorem dX4_shrink_31 : decode cX4_shrink 31 = .ok (.aload_n 0, 1) := by decide +kernel
theorem dX4_shrink_32 : decode cX4_shrink 32 = .ok (.getfield 34, 3) := by decide +kernel
theorem dX4_shrink_35 : decode cX4_shrink 35 = .ok (.iload_n 3, 1) := by decide +kernel
theorem dX4_shrink_36 : decode cX4_shrink 36 = .ok (.iaload, 1) := by decide +kernel
theorem dX4_shrink_37 : decode cX4_shrink 37 = .ok (.iload_n 3, 1) := by decide +kernel
theorem dX4_shrink_38 : decode cX4_shrink 38 = .ok (.if_icmp .ne 26, 3) := by decide +kernel
theorem dX4_shrink_41 : decode cX4_shrink 41 = .ok (.iload_n 3, 1) := by decide +kernel
theorem dX4_shrink_42 : decode cX4_shrink 42 = .ok (.iload_n 2, 1) := by decide +kernel
theorem dX4_shrink_43 : decode cX4_shrink 43 = .ok (.if_icmp .eq 21, 3) := by decide +kernel
theorem dX4_shrink_46 : decode cX4_shrink 46 = .ok (.aload_n 0, 1) := by decide +kernel
theorem dX4_shrink_47 : decode cX4_shrink 47 = .ok (.iload_n 3, 1) := by decide +kernel
theorem dX4_shrink_48 : decode cX4_shrink 48 = .ok (.invokevirtual 122, 3) := by decide +kernel
theorem dX4_shrink_51 : decode cX4_shrink 51 = .ok (.iload_n 2, 1) := by decide +kernel
theorem dX4_shrink_52 : decode cX4_shrink 52 = .ok (.if_icmp .ne 12, 3) := by decide +kernel
theorem dX4_shrink_55 : decode cX4_shrink 55 = .ok (.aload_n 0, 1) := by decide +kernel
theorem dX4_shrink_56 : decode cX4_shrink 56 = .ok (.iload_n 2, 1) := by decide +kernel
theorem dX4_shrink_57 : decode cX4_shrink 57 = .ok (.iload_n 3, 1) := by decide +kernel
theorem dX4_shrink_58 : decode cX4_shrink 58 = .ok (.invokevirtual 118, 3) := by decide +kernel
theorem dX4_shrink_61 : decode cX4_shrink 61 = .ok (.iinc 1 1, 3) := by decide +kernel
theorem dX4_shrink_64 : decode cX4_shrink 64 = .ok (.iinc 3 1, 3) := by decide +kernel
theorem dX4_shrink_67 : decode cX4_shrink 67 = .ok (.goto (-44), 3) := by decide +kernel
theorem dX4_shrink_70 : decode cX4_shrink 70 = .ok (.iinc 2 1, 3) := by decide +kernel
theorem dX4_shrink_73 : decode cX4_shrink 73 = .ok (.goto (-60), 3) := by decide +kernel
theorem dX4_shrink_76 : decode cX4_shrink 76 = .ok (.iload_n 1, 1) := by decide +kernel
theorem dX4_shrink_77 : decode cX4_shrink 77 = .ok (.ireturn, 1) := by decide +kernel
theorem dX4_isCopied_0 : decode cX4_isCopied 0 = .ok (.aload_n 0, 1) := by decide +kernel
theorem dX4_isCopied_1 : decode cX4_isCopied 1 = .ok (.getfield 34, 3) := by decide +kernel
theorem dX4_isCopied_4 : decode cX4_isCopied 4 = .ok (.iload_n 2, 1) := by decide +kernel
theorem dX4_isCopied_5 : decode cX4_isCopied 5 = .ok (.iaload, 1) := by decide +kernel
theorem dX4_isCopied_6 : decode cX4_isCopied 6 = .ok (.iload_n 2, 1) := by decide +kernel
theorem dX4_isCopied_7 : decode cX4_isCopied 7 = .ok (.if_icmp .ne 32, 3) := by decide +kernel
theorem dX4_isCopied_10 : decode cX4_isCopied 10 = .ok (.aload_n 0, 1) := by decide +kernel
theorem dX4_isCopied_11 : decode cX4_isCopied 11 = .ok (.getfield 37, 3) := by decide +kernel
theorem dX4_isCopied_14 : decode cX4_isCopied 14 = .ok (.iload_n 1, 1) := by decide +kernel
theorem dX4_isCopied_15 : decode cX4_isCopied 15 = .ok (.laload, 1) := by decide +kernel
theorem dX4_isCopied_16 : decode cX4_isCopied 16 = .ok (.iload_n 2, 1) := by decide +kernel
theorem dX4_isCopied_17 : decode cX4_isCopied 17 = .ok (.lshr, 1) := by decide +kernel
theorem dX4_isCopied_18 : decode cX4_isCopied 18 = .ok (.lconst 1, 1) := by decide +kernel
theorem dX4_isCopied_19 : decode cX4_isCopied 19 = .ok (.land, 1) := by decide +kernel
theorem dX4_isCopied_20 : decode cX4_isCopied 20 = .ok (.lconst 1, 1) := by decide +kernel
theorem dX4_isCopied_21 : decode cX4_isCopied 21 = .ok (.lcmp, 1) := by decide +kernel
theorem dX4_isCopied_22 : decode cX4_isCopied 22 = .ok (.ifCond .ne 17, 3) := by decide +kernel
theorem dX4_isCopied_25 : decode cX4_isCopied 25 = .ok (.aload_n 0, 1) := by decide +kernel
theorem dX4_isCopied_26 : decode cX4_isCopied 26 = .ok (.getfield 44, 3) := by decide +kernel
theorem dX4_isCopied_29 : decode cX4_isCopied 29 = .ok (.iload_n 2, 1) := by decide +kernel
theorem dX4_isCopied_30 : decode cX4_isCopied 30 = .ok (.iaload, 1) := by decide +kernel
theorem dX4_isCopied_31 : decode cX4_isCopied 31 = .ok (.iload_n 3, 1) := by decide +kernel
theorem dX4_isCopied_32 : decode cX4_isCopied 32 = .ok (.if_icmp .le 7, 3) := by decide +kernel
theorem dX4_isCopied_35 : decode cX4_isCopied 35 = .ok (.iconst 1, 1) := by decide +kernel
theorem dX4_isCopied_36 : decode cX4_isCopied 36 = .ok (.goto 4, 3) := by decide +kernel
theorem dX4_isCopied_39 : decode cX4_isCopied 39 = .ok (.iconst 0, 1) := by decide +kernel
theorem dX4_isCopied_40 : decode cX4_isCopied 40 = .ok (.ireturn, 1) := by decide +kernel
set_option maxRecDepth 20000 in
theorem ggX4_copy_X4_isVariable : GoodIn wsX4_copy wsX4_isVariable := goodIn_r _ [13, 3, 67, 68, 69, 70, 71, 72, 73, 74, 75, 76, 77, 78, 79, 80, 81, 82, 83, 84, 85, 86, 87] (by decide +kernel) (by decide +kernel)
set_option maxRecDepth 20000 in
theorem gX4_copy_X4_isVariable : GoodIn wsX4_copy (wsV RX4 100 RX4 yX4_isVariable wsX4_isVariable) := goodIn_app (goodIn_of _ (by decide +kernel)) ggX4_copy_X4_isVariable
set_option maxRecDepth 20000 in
theorem ggX4_copy_X4_goes : GoodIn wsX4_copy wsX4_goes := goodIn_r _ [17, 18, 67, 68, 69, 70, 71, 72, 73, 74, 75, 76, 77, 78, 79, 80, 81, 82, 83, 84, 85, 86, 87] (by decide +kernel) (by decide +kernel)
set_option maxRecDepth 20000 in
theorem gX4_copy_X4_goes : GoodIn wsX4_copy (wsV RX4 87 RX4 yX4_goes wsX4_goes) := goodIn_app (goodIn_of _ (by decide +kernel)) ggX4_copy_X4_goes
set_option maxRecDepth 20000 in
theorem ggX4_copy_X4_workOut : GoodIn wsX4_copy wsX4_workOut := goodIn_r _ [22, 23, 24, 25, 12, 26, 3, 2, 27, 28, 29, 30, 31, 32, 33, 34, 35, 36, 37, 38, 39, 4, 6, 40, 41, 42, 43, 1, 44, 8, 45, 67, 68, 69, 70, 71, 72, 73, 74, 75, 76, 77, 78, 79, 80, 81, 82, 83, 84, 85, 86, 87] (by decide +kernel) (by decide +kernel)
set_option maxRecDepth 20000 in
theorem gX4_copy_X4_workOut : GoodIn wsX4_copy (wsV RX4 107 RX4 yX4_workOut wsX4_workOut) := goodIn_app (goodIn_of _ (by decide +kernel)) ggX4_copy_X4_workOut
set_option maxRecDepth 20000 in
theorem ggX4_copy_X4_isCopied : GoodIn wsX4_copy wsX4_isCopied := goodIn_r _ [49, 2, 32, 1, 67, 68, 69, 70, 71, 72, 73, 74, 75, 76, 77, 78, 79, 80, 81, 82, 83, 84, 85, 86, 87] (by decide +kernel) (by decide +kernel)
set_option maxRecDepth 20000 in
theorem gX4_copy_X4_isCopied : GoodIn wsX4_copy (wsV RX4 125 RX4 yX4_isCopied wsX4_isCopied) := goodIn_app (goodIn_of _ (by decide +kernel)) ggX4_copy_X4_isCopied
set_option maxRecDepth 20000 in
theorem ggX4_copy_X4_newVariable : GoodIn wsX4_copy wsX4_newVariable := goodIn_r _ [53, 44, 3, 67, 68, 69, 70, 71, 72, 73, 74, 75, 76, 77, 78, 79, 80, 81, 82, 83, 84, 85, 86, 87] (by decide +kernel) (by decide +kernel)
set_option maxRecDepth 20000 in
theorem gX4_copy_X4_newVariable : GoodIn wsX4_copy (wsV RX4 91 RX4 yX4_newVariable wsX4_newVariable) := goodIn_app (goodIn_of _ (by decide +kernel)) ggX4_copy_X4_newVariable
set_option maxRecDepth 20000 in
theorem ggX4_copy_X4_newAtom : GoodIn wsX4_copy wsX4_newAtom := goodIn_r _ [57, 45, 4, 67, 68, 69, 70, 71, 72, 73, 74, 75, 76, 77, 78, 79, 80, 81, 82, 83, 84, 85, 86, 87] (by decide +kernel) (by decide +kernel)
set_option maxRecDepth 20000 in
theorem gX4_copy_X4_newAtom : GoodIn wsX4_copy (wsV RX4 94 RX4 yX4_newAtom wsX4_newAtom) := goodIn_app (goodIn_of _ (by decide +kernel)) ggX4_copy_X4_newAtom
set_option maxRecDepth 20000 in
theorem ggX4_copy_X4_copyNode : GoodIn wsX4_copy wsX4_copyNode := goodIn_r _ [61, 2, 6, 5, 7, 33, 62, 63, 64, 12, 65, 66, 67, 68, 69, 70, 71, 72, 73, 74, 75, 76, 77, 78, 79, 80, 81, 82, 83, 84, 85, 86, 87] (by decide +kernel) (by decide +kernel)
set_option maxRecDepth 20000 in
theorem gX4_copy_X4_copyNode : GoodIn wsX4_copy (wsV RX4 129 RX4 yX4_copyNode wsX4_copyNode) := goodIn_app (goodIn_of _ (by decide +kernel)) ggX4_copy_X4_copyNode
theorem dX4_copy_0 : decode cX4_copy 0 = .ok (.aload_n 0, 1) := by decide +kernel
theorem dX4_copy_1 : decode cX4_copy 1 = .ok (.aload_n 0, 1) := by decide +kernel
theorem dX4_copy_2 : decode cX4_copy 2 = .ok (.iload_n 1, 1) := by decide +kernel
theorem dX4_copy_3 : decode cX4_copy 3 = .ok (.invokevirtual 100, 3) := by decide +kernel
theorem dX4_copy_6 : decode cX4_copy 6 = .ok (.iload_n 2, 1) := by decide +kernel
theorem dX4_copy_7 : decode cX4_copy 7 = .ok (.ifCond .lt 13, 3) := by decide +kernel
theorem dX4_copy_10 : decode cX4_copy 10 = .ok (.iload_n 2, 1) := by decide +kernel
theorem dX4_copy_11 : decode cX4_copy 11 = .ok (.bipush 10, 2) := by decide +kernel
theorem dX4_copy_13 : decode cX4_copy 13 = .ok (.if_icmp .ge 7, 3) := by decide +kernel
theorem dX4_copy_16 : decode cX4_copy 16 = .ok (.iconst 1, 1) := by decide +kernel
theorem dX4_copy_17 : decode cX4_copy 17 = .ok (.goto 4, 3) := by decide +kernel
theorem dX4_copy_20 : decode cX4_copy 20 = .ok (.iconst 0, 1) := by decide +kernel
theorem dX4_copy_21 : decode cX4_copy 21 = .ok (.invokevirtual 87, 3) := by decide +kernel
theorem dX4_copy_24 : decode cX4_copy 24 = .ok (.ifCond .ne 5, 3) := by decide +kernel
theorem dX4_copy_27 : decode cX4_copy 27 = .ok (.iconst 0, 1) := by decide +kernel
theorem dX4_copy_28 : decode cX4_copy 28 = .ok (.ireturn, 1) := by decide +kernel
theorem dX4_copy_29 : decode cX4_copy 29 = .ok (.aload_n 0, 1) := by decide +kernel
theorem dX4_copy_30 : decode cX4_copy 30 = .ok (.invokevirtual 107, 3) := by decide +kernel
theorem dX4_copy_33 : decode cX4_copy 33 = .ok (.aload_n 0, 1) := by decide +kernel
theorem dX4_copy_34 : decode cX4_copy 34 = .ok (.getfield 44, 3) := by decide +kernel
theorem dX4_copy_37 : decode cX4_copy 37 = .ok (.iload_n 1, 1) := by decide +kernel
theorem dX4_copy_38 : decode cX4_copy 38 = .ok (.iaload, 1) := by decide +kernel
theorem dX4_copy_39 : decode cX4_copy 39 = .ok (.iload_n 2, 1) := by decide +kernel
theorem dX4_copy_40 : decode cX4_copy 40 = .ok (.if_icmp .gt 10, 3) := by decide +kernel
theorem dX4_copy_43 : decode cX4_copy 43 = .ok (.aload_n 0, 1) := by decide +kernel
theorem dX4_copy_44 : decode cX4_copy 44 = .ok (.getfield 34, 3) := by decide +kernel
theorem dX4_copy_47 : decode cX4_copy 47 = .ok (.iload_n 1, 1) := by decide +kernel
theorem dX4_copy_48 : decode cX4_copy 48 = .ok (.iaload, 1) := by decide +kernel
theorem dX4_copy_49 : decode cX4_copy 49 = .ok (.ireturn, 1) := by decide +kernel
theorem dX4_copy_50 : decode cX4_copy 50 = .ok (.aload_n 0, 1) := by decide +kernel
theorem dX4_copy_51 : decode cX4_copy 51 = .ok (.getfield 63, 3) := by decide +kernel
theorem dX4_copy_54 : decode cX4_copy 54 = .ok (.istore_n 3, 1) := by decide +kernel
theorem dX4_copy_55 : decode cX4_copy 55 = .ok (.aload_n 0, 1) := by decide +kernel
theorem dX4_copy_56 : decode cX4_copy 56 = .ok (.getfield 66, 3) := by decide +kernel
theorem dX4_copy_59 : decode cX4_copy 59 = .ok (.istore 4, 2) := by decide +kernel
theorem dX4_copy_61 : decode cX4_copy 61 = .ok (.aload_n 0, 1) := by decide +kernel
theorem dX4_copy_62 : decode cX4_copy 62 = .ok (.getfield 63, 3) := by decide +kernel
theorem dX4_copy_65 : decode cX4_copy 65 = .ok (.istore 5, 2) := by decide +kernel
theorem dX4_copy_67 : decode cX4_copy 67 = .ok (.iconst 0, 1) := by decide +kernel
theorem dX4_copy_68 : decode cX4_copy 68 = .ok (.istore 6, 2) := by decide +kernel
theorem dX4_copy_70 : decode cX4_copy 70 = .ok (.iload 6, 2) := by decide +kernel
theorem dX4_copy_72 : decode cX4_copy 72 = .ok (.iload_n 3, 1) := by decide +kernel
theorem dX4_copy_73 : decode cX4_copy 73 = .ok (.if_icmp .ge 54, 3) := by decide +kernel
theorem dX4_copy_76 : decode cX4_copy 76 = .ok (.aload_n 0, 1) := by decide +kernel
theorem dX4_copy_77 : decode cX4_copy 77 = .ok (.getfield 53, 3) := by decide +kernel
theorem dX4_copy_80 : decode cX4_copy 80 = .ok (.iload 6, 2) := by decide +kernel
theorem dX4_copy_82 : decode cX4_copy 82 = .ok (.aload_n 0, 1) := by decide +kernel
theorem dX4_copy_83 : decode cX4_copy 83 = .ok (.iload_n 1, 1) := by decide +kernel
theorem dX4_copy_84 : decode cX4_copy 84 = .ok (.iload 6, 2) := by decide +kernel
theorem dX4_copy_86 : decode cX4_copy 86 = .ok (.iload_n 2, 1) := by decide +kernel
theorem dX4_copy_87 : decode cX4_copy 87 = .ok (.invokevirtual 125, 3) := by decide +kernel
theorem dX4_copy_90 : decode cX4_copy 90 = .ok (.ifCond .eq 8, 3) := by decide +kernel
theorem dX4_copy_93 : decode cX4_copy 93 = .ok (.iload 5, 2) := by decide +kernel
theorem dX4_copy_95 : decode cX4_copy 95 = .ok (.goto 4, 3) := by decide +kernel
theorem dX4_copy_98 : decode cX4_copy 98 = .ok (.iconst (-1), 1) := by decide +kernel
theorem dX4_copy_99 : decode cX4_copy 99 = .ok (.iastore, 1) := by decide +kernel
theorem dX4_copy_100 : decode cX4_copy 100 = .ok (.iload 5, 2) := by decide +kernel
theorem dX4_copy_102 : decode cX4_copy 102 = .ok (.aload_n 0, 1) := by decide +kernel
theorem dX4_copy_103 : decode cX4_copy 103 = .ok (.getfield 53, 3) := by decide +kernel
theorem dX4_copy_106 : decode cX4_copy 106 = .ok (.iload 6, 2) := by decide +kernel
theorem dX4_copy_108 : decode cX4_copy 108 = .ok (.iaload, 1) := by decide +kernel
theorem dX4_copy_109 : decode cX4_copy 109 = .ok (.iconst (-1), 1) := by decide +kernel
theorem dX4_copy_110 : decode cX4_copy 110 = .ok (.if_icmp .ne 7, 3) := by decide +kernel
theorem dX4_copy_113 : decode cX4_copy 113 = .ok (.iconst 0, 1) := by decide +kernel
theorem dX4_copy_114 : decode cX4_copy 114 = .ok (.goto 4, 3) := by decide +kernel
theorem dX4_copy_117 : decode cX4_copy 117 = .ok (.iconst 1, 1) := by decide +kernel
theorem dX4_copy_118 : decode cX4_copy 118 = .ok (.iadd, 1) := by decide +kernel
theorem dX4_copy_119 : decode cX4_copy 119 = .ok (.istore 5, 2) := by decide +kernel
theorem dX4_copy_121 : decode cX4_copy 121 = .ok (.iinc 6 1, 3) := by decide +kernel
theorem dX4_copy_124 : decode cX4_copy 124 = .ok (.goto (-54), 3) := by decide +kernel
theorem dX4_copy_127 : decode cX4_copy 127 = .ok (.aload_n 0, 1) := by decide +kernel
theorem dX4_copy_128 : decode cX4_copy 128 = .ok (.getfield 66, 3) := by decide +kernel
theorem dX4_copy_131 : decode cX4_copy 131 = .ok (.istore 6, 2) := by decide +kernel
theorem dX4_copy_133 : decode cX4_copy 133 = .ok (.iconst 0, 1) := by decide +kernel
theorem dX4_copy_134 : decode cX4_copy 134 = .ok (.istore 7, 2) := by decide +kernel
theorem dX4_copy_136 : decode cX4_copy 136 = .ok (.iload 7, 2) := by decide +kernel
theorem dX4_copy_138 : decode cX4_copy 138 = .ok (.iload 4, 2) := by decide +kernel
theorem dX4_copy_140 : decode cX4_copy 140 = .ok (.if_icmp .ge 121, 3) := by decide +kernel
theorem dX4_copy_143 : decode cX4_copy 143 = .ok (.iconst 0, 1) := by decide +kernel
theorem dX4_copy_144 : decode cX4_copy 144 = .ok (.istore 8, 2) := by decide +kernel
theorem dX4_copy_146 : decode cX4_copy 146 = .ok (.iconst 0, 1) := by decide +kernel
theorem dX4_copy_147 : decode cX4_copy 147 = .ok (.istore 9, 2) := by decide +kernel
theorem dX4_copy_149 : decode cX4_copy 149 = .ok (.iload 9, 2) := by decide +kernel
theorem dX4_copy_151 : decode cX4_copy 151 = .ok (.iload_n 3, 1) := by decide +kernel
theorem dX4_copy_152 : decode cX4_copy 152 = .ok (.if_icmp .ge 53, 3) := by decide +kernel
theorem dX4_copy_155 : decode cX4_copy 155 = .ok (.iload 8, 2) := by decide +kernel
theorem dX4_copy_157 : decode cX4_copy 157 = .ok (.ifCond .ne 35, 3) := by decide +kernel
theorem dX4_copy_160 : decode cX4_copy 160 = .ok (.aload_n 0, 1) := by decide +kernel
theorem dX4_copy_161 : decode cX4_copy 161 = .ok (.getfield 16, 3) := by decide +kernel
theorem dX4_copy_164 : decode cX4_copy 164 = .ok (.bipush 32, 2) := by decide +kernel
theorem dX4_copy_166 : decode cX4_copy 166 = .ok (.iload 9, 2) := by decide +kernel
theorem dX4_copy_168 : decode cX4_copy 168 = .ok (.imul, 1) := by decide +kernel
theorem dX4_copy_169 : decode cX4_copy 169 = .ok (.iload 7, 2) := by decide +kernel
theorem dX4_copy_171 : decode cX4_copy 171 = .ok (.iadd, 1) := by decide +kernel
theorem dX4_copy_172 : decode cX4_copy 172 = .ok (.iaload, 1) := by decide +kernel
theorem dX4_copy_173 : decode cX4_copy 173 = .ok (.ifCond .le 23, 3) := by decide +kernel
theorem dX4_copy_176 : decode cX4_copy 176 = .ok (.aload_n 0, 1) := by decide +kernel
theorem dX4_copy_177 : decode cX4_copy 177 = .ok (.getfield 53, 3) := by decide +kernel
theorem dX4_copy_180 : decode cX4_copy 180 = .ok (.aload_n 0, 1) := by decide +kernel
theorem dX4_copy_181 : decode cX4_copy 181 = .ok (.getfield 34, 3) := by decide +kernel
theorem dX4_copy_184 : decode cX4_copy 184 = .ok (.iload 9, 2) := by decide +kernel
theorem dX4_copy_186 : decode cX4_copy 186 = .ok (.iaload, 1) := by decide +kernel
theorem dX4_copy_187 : decode cX4_copy 187 = .ok (.iaload, 1) := by decide +kernel
theorem dX4_copy_188 : decode cX4_copy 188 = .ok (.iconst (-1), 1) := by decide +kernel
theorem dX4_copy_189 : decode cX4_copy 189 = .ok (.if_icmp .eq 7, 3) := by decide +kernel
theorem dX4_copy_192 : decode cX4_copy 192 = .ok (.iconst 1, 1) := by decide +kernel
theorem dX4_copy_193 : decode cX4_copy 193 = .ok (.goto 4, 3) := by decide +kernel
theorem dX4_copy_196 : decode cX4_copy 196 = .ok (.iconst 0, 1) := by decide +kernel
theorem dX4_copy_197 : decode cX4_copy 197 = .ok (.istore 8, 2) := by decide +kernel
theorem dX4_copy_199 : decode cX4_copy 199 = .ok (.iinc 9 1, 3) := by decide +kernel
theorem dX4_copy_202 : decode cX4_copy 202 = .ok (.goto (-53), 3) := by decide +kernel
theorem dX4_copy_205 : decode cX4_copy 205 = .ok (.aload_n 0, 1) := by decide +kernel
theorem dX4_copy_206 : decode cX4_copy 206 = .ok (.getfield 56, 3) := by decide +kernel
theorem dX4_copy_209 : decode cX4_copy 209 = .ok (.iload 7, 2) := by decide +kernel
theorem dX4_copy_211 : decode cX4_copy 211 = .ok (.iload 8, 2) := by decide +kernel
theorem dX4_copy_213 : decode cX4_copy 213 = .ok (.ifCond .eq 19, 3) := by decide +kernel
theorem dX4_copy_216 : decode cX4_copy 216 = .ok (.aload_n 0, 1) := by decide +kernel
theorem dX4_copy_217 : decode cX4_copy 217 = .ok (.getfield 47, 3) := by decide +kernel
theorem dX4_copy_220 : decode cX4_copy 220 = .ok (.iload 7, 2) := by decide +kernel
theorem dX4_copy_222 : decode cX4_copy 222 = .ok (.iaload, 1) := by decide +kernel
theorem dX4_copy_223 : decode cX4_copy 223 = .ok (.iload_n 2, 1) := by decide +kernel
theorem dX4_copy_224 : decode cX4_copy 224 = .ok (.if_icmp .le 8, 3) := by decide +kernel
theorem dX4_copy_227 : decode cX4_copy 227 = .ok (.iload 6, 2) := by decide +kernel
theorem dX4_copy_229 : decode cX4_copy 229 = .ok (.goto 4, 3) := by decide +kernel
theorem dX4_copy_232 : decode cX4_copy 232 = .ok (.iconst (-1), 1) := by decide +kernel
theorem dX4_copy_233 : decode cX4_copy 233 = .ok (.iastore, 1) := by decide +kernel
theorem dX4_copy_234 : decode cX4_copy 234 = .ok (.iload 6, 2) := by decide +kernel
theorem dX4_copy_236 : decode cX4_copy 236 = .ok (.aload_n 0, 1) := by decide +kernel
theorem dX4_copy_237 : decode cX4_copy 237 = .ok (.getfield 56, 3) := by decide +kernel
theorem dX4_copy_240 : decode cX4_copy 240 = .ok (.iload 7, 2) := by decide +kernel
theorem dX4_copy_242 : decode cX4_copy 242 = .ok (.iaload, 1) := by decide +kernel
theorem dX4_copy_243 : decode cX4_copy 243 = .ok (.iconst (-1), 1) := by decide +kernel
theorem dX4_copy_244 : decode cX4_copy 244 = .ok (.if_icmp .ne 7, 3) := by decide +kernel
theorem dX4_copy_247 : decode cX4_copy 247 = .ok (.iconst 0, 1) := by decide +kernel
theorem dX4_copy_248 : decode cX4_copy 248 = .ok (.goto 4, 3) := by decide +kernel
theorem dX4_copy_251 : decode cX4_copy 251 = .ok (.iconst 1, 1) := by decide +kernel
theorem dX4_copy_252 : decode cX4_copy 252 = .ok (.iadd, 1) := by decide +kernel
theorem dX4_copy_253 : decode cX4_copy 253 = .ok (.istore 6, 2) := by decide +kernel
theorem dX4_copy_255 : decode cX4_copy 255 = .ok (.iinc 7 1, 3) := by decide +kernel
theorem dX4_copy_258 : decode cX4_copy 258 = .ok (.goto (-122), 3) := by decide +kernel
theorem dX4_copy_261 : decode cX4_copy 261 = .ok (.iload 5, 2) := by decide +kernel
theorem dX4_copy_263 : decode cX4_copy 263 = .ok (.bipush 60, 2) := by decide +kernel
theorem dX4_copy_265 : decode cX4_copy 265 = .ok (.if_icmp .gt 10, 3) := by decide +kernel
theorem dX4_copy_268 : decode cX4_copy 268 = .ok (.iload 6, 2) := by decide +kernel
theorem dX4_copy_270 : decode cX4_copy 270 = .ok (.bipush 32, 2) := by decide +kernel
theorem dX4_copy_272 : decode cX4_copy 272 = .ok (.if_icmp .le 5, 3) := by decide +kernel
theorem dX4_copy_275 : decode cX4_copy 275 = .ok (.iconst (-1), 1) := by decide +kernel
theorem dX4_copy_276 : decode cX4_copy 276 = .ok (.ireturn, 1) := by decide +kernel
theorem dX4_copy_277 : decode cX4_copy 277 = .ok (.iconst 0, 1) := by decide +kernel
theorem dX4_copy_278 : decode cX4_copy 278 = .ok (.istore 7, 2) := by decide +kernel
theorem dX4_copy_280 : decode cX4_copy 280 = .ok (.iload 7, 2) := by decide +kernel
theorem dX4_copy_282 : decode cX4_copy 282 = .ok (.iload_n 3, 1) := by decide +kernel
theorem dX4_copy_283 : decode cX4_copy 283 = .ok (.if_icmp .ge 37, 3) := by decide +kernel
theorem dX4_copy_286 : decode cX4_copy 286 = .ok (.aload_n 0, 1) := by decide +kernel
theorem dX4_copy_287 : decode cX4_copy 287 = .ok (.getfield 53, 3) := by decide +kernel
theorem dX4_copy_290 : decode cX4_copy 290 = .ok (.iload 7, 2) := by decide +kernel
theorem dX4_copy_292 : decode cX4_copy 292 = .ok (.iaload, 1) := by decide +kernel
theorem dX4_copy_293 : decode cX4_copy 293 = .ok (.iconst (-1), 1) := by decide +kernel
theorem dX4_copy_294 : decode cX4_copy 294 = .ok (.if_icmp .ne 7, 3) := by decide +kernel
theorem dX4_copy_297 : decode cX4_copy 297 = .ok (.iconst (-1), 1) := by decide +kernel
theorem dX4_copy_298 : decode cX4_copy 298 = .ok (.goto 14, 3) := by decide +kernel
theorem dX4_copy_301 : decode cX4_copy 301 = .ok (.aload_n 0, 1) := by decide +kernel
theorem dX4_copy_302 : decode cX4_copy 302 = .ok (.aload_n 0, 1) := by decide +kernel
theorem dX4_copy_303 : decode cX4_copy 303 = .ok (.getfield 44, 3) := by decide +kernel
theorem dX4_copy_306 : decode cX4_copy 306 = .ok (.iload 7, 2) := by decide +kernel
theorem dX4_copy_308 : decode cX4_copy 308 = .ok (.iaload, 1) := by decide +kernel
theorem dX4_copy_309 : decode cX4_copy 309 = .ok (.invokevirtual 91, 3) := by decide +kernel
theorem dX4_copy_312 : decode cX4_copy 312 = .ok (.istore 8, 2) := by decide +kernel
theorem dX4_copy_314 : decode cX4_copy 314 = .ok (.iinc 7 1, 3) := by decide +kernel
theorem dX4_copy_317 : decode cX4_copy 317 = .ok (.goto (-37), 3) := by decide +kernel
theorem dX4_copy_320 : decode cX4_copy 320 = .ok (.iconst 0, 1) := by decide +kernel
theorem dX4_copy_321 : decode cX4_copy 321 = .ok (.istore 7, 2) := by decide +kernel
theorem dX4_copy_323 : decode cX4_copy 323 = .ok (.iload 7, 2) := by decide +kernel
theorem dX4_copy_325 : decode cX4_copy 325 = .ok (.iload 4, 2) := by decide +kernel
theorem dX4_copy_327 : decode cX4_copy 327 = .ok (.if_icmp .ge 37, 3) := by decide +kernel
theorem dX4_copy_330 : decode cX4_copy 330 = .ok (.aload_n 0, 1) := by decide +kernel
theorem dX4_copy_331 : decode cX4_copy 331 = .ok (.getfield 56, 3) := by decide +kernel
theorem dX4_copy_334 : decode cX4_copy 334 = .ok (.iload 7, 2) := by decide +kernel
theorem dX4_copy_336 : decode cX4_copy 336 = .ok (.iaload, 1) := by decide +kernel
theorem dX4_copy_337 : decode cX4_copy 337 = .ok (.iconst (-1), 1) := by decide +kernel
theorem dX4_copy_338 : decode cX4_copy 338 = .ok (.if_icmp .ne 7, 3) := by decide +kernel
theorem dX4_copy_341 : decode cX4_copy 341 = .ok (.iconst (-1), 1) := by decide +kernel
theorem dX4_copy_342 : decode cX4_copy 342 = .ok (.goto 14, 3) := by decide +kernel
theorem dX4_copy_345 : decode cX4_copy 345 = .ok (.aload_n 0, 1) := by decide +kernel
theorem dX4_copy_346 : decode cX4_copy 346 = .ok (.aload_n 0, 1) := by decide +kernel
theorem dX4_copy_347 : decode cX4_copy 347 = .ok (.getfield 47, 3) := by decide +kernel
theorem dX4_copy_350 : decode cX4_copy 350 = .ok (.iload 7, 2) := by decide +kernel
theorem dX4_copy_352 : decode cX4_copy 352 = .ok (.iaload, 1) := by decide +kernel
theorem dX4_copy_353 : decode cX4_copy 353 = .ok (.invokevirtual 94, 3) := by decide +kernel
theorem dX4_copy_356 : decode cX4_copy 356 = .ok (.istore 8, 2) := by decide +kernel
theorem dX4_copy_358 : decode cX4_copy 358 = .ok (.iinc 7 1, 3) := by decide +kernel
theorem dX4_copy_361 : decode cX4_copy 361 = .ok (.goto (-38), 3) := by decide +kernel
theorem dX4_copy_364 : decode cX4_copy 364 = .ok (.iconst 0, 1) := by decide +kernel
theorem dX4_copy_365 : decode cX4_copy 365 = .ok (.istore 7, 2) := by decide +kernel
theorem dX4_copy_367 : decode cX4_copy 367 = .ok (.iload 7, 2) := by decide +kernel
theorem dX4_copy_369 : decode cX4_copy 369 = .ok (.iload_n 3, 1) := by decide +kernel
theorem dX4_copy_370 : decode cX4_copy 370 = .ok (.if_icmp .ge 29, 3) := by decide +kernel
theorem dX4_copy_373 : decode cX4_copy 373 = .ok (.aload_n 0, 1) := by decide +kernel
theorem dX4_copy_374 : decode cX4_copy 374 = .ok (.getfield 53, 3) := by decide +kernel
theorem dX4_copy_377 : decode cX4_copy 377 = .ok (.iload 7, 2) := by decide +kernel
theorem dX4_copy_379 : decode cX4_copy 379 = .ok (.iaload, 1) := by decide +kernel
theorem dX4_copy_380 : decode cX4_copy 380 = .ok (.iconst (-1), 1) := by decide +kernel
theorem dX4_copy_381 : decode cX4_copy 381 = .ok (.if_icmp .eq 12, 3) := by decide +kernel
theorem dX4_copy_384 : decode cX4_copy 384 = .ok (.aload_n 0, 1) := by decide +kernel
theorem dX4_copy_385 : decode cX4_copy 385 = .ok (.iload 7, 2) := by decide +kernel
theorem dX4_copy_387 : decode cX4_copy 387 = .ok (.iload_n 3, 1) := by decide +kernel
theorem dX4_copy_388 : decode cX4_copy 388 = .ok (.iload 4, 2) := by decide +kernel
theorem dX4_copy_390 : decode cX4_copy 390 = .ok (.invokevirtual 129, 3) := by decide +kernel
theorem dX4_copy_393 : decode cX4_copy 393 = .ok (.iinc 7 1, 3) := by decide +kernel
theorem dX4_copy_396 : decode cX4_copy 396 = .ok (.goto (-29), 3) := by decide +kernel
theorem dX4_copy_399 : decode cX4_copy 399 = .ok (.aload_n 0, 1) := by decide +kernel
theorem dX4_copy_400 : decode cX4_copy 400 = .ok (.getfield 53, 3) := by decide +kernel
theorem dX4_copy_403 : decode cX4_copy 403 = .ok (.aload_n 0, 1) := by decide +kernel
theorem dX4_copy_404 : decode cX4_copy 404 = .ok (.getfield 34, 3) := by decide +kernel
theorem dX4_copy_407 : decode cX4_copy 407 = .ok (.iload_n 1, 1) := by decide +kernel
theorem dX4_copy_408 : decode cX4_copy 408 = .ok (.iaload, 1) := by decide +kernel
theorem dX4_copy_409 : decode cX4_copy 409 = .ok (.iaload, 1) := by decide +kernel
theorem dX4_copy_410 : decode cX4_copy 410 = .ok (.ireturn, 1) := by decide +kernel
set_option maxRecDepth 20000 in
theorem ggX4_copyNode_X4_tell : GoodIn wsX4_copyNode wsX4_tell := goodIn_r _ [10, 11, 12, 13, 14, 15, 16, 17, 18, 19, 20, 21, 22, 23, 24, 25, 26, 27, 28, 29, 30, 31, 32] (by decide +kernel) (by decide +kernel)
set_option maxRecDepth 20000 in
theorem gX4_copyNode_X4_tell : GoodIn wsX4_copyNode (wsV RX4 114 RX4 yX4_tell wsX4_tell) := goodIn_app (goodIn_of _ (by decide +kernel)) ggX4_copyNode_X4_tell
theorem dX4_copyNode_0 : decode cX4_copyNode 0 = .ok (.iconst 0, 1) := by decide +kernel
theorem dX4_copyNode_1 : decode cX4_copyNode 1 = .ok (.istore 4, 2) := by decide +kernel
theorem dX4_copyNode_3 : decode cX4_copyNode 3 = .ok (.iload 4, 2) := by decide +kernel
theorem dX4_copyNode_5 : decode cX4_copyNode 5 = .ok (.iload_n 3, 1) := by decide +kernel
theorem dX4_copyNode_6 : decode cX4_copyNode 6 = .ok (.if_icmp .ge 92, 3) := by decide +kernel
theorem dX4_copyNode_9 : decode cX4_copyNode 9 = .ok (.iconst 0, 1) := by decide +kernel
theorem dX4_copyNode_10 : decode cX4_copyNode 10 = .ok (.istore 5, 2) := by decide +kernel
theorem dX4_copyNode_12 : decode cX4_copyNode 12 = .ok (.iload 5, 2) := by decide +kernel
theorem dX4_copyNode_14 : decode cX4_copyNode 14 = .ok (.iload_n 2, 1) := by decide +kernel
theorem dX4_copyNode_15 : decode cX4_copyNode 15 = .ok (.if_icmp .ge 77, 3) := by decide +kernel
theorem dX4_copyNode_18 : decode cX4_copyNode 18 = .ok (.aload_n 0, 1) := by decide +kernel
theorem dX4_copyNode_19 : decode cX4_copyNode 19 = .ok (.getfield 34, 3) := by decide +kernel
theorem dX4_copyNode_22 : decode cX4_copyNode 22 = .ok (.iload 5, 2) := by decide +kernel
theorem dX4_copyNode_24 : decode cX4_copyNode 24 = .ok (.iaload, 1) := by decide +kernel
theorem dX4_copyNode_25 : decode cX4_copyNode 25 = .ok (.iload_n 1, 1) := by decide +kernel
theorem dX4_copyNode_26 : decode cX4_copyNode 26 = .ok (.if_icmp .ne 60, 3) := by decide +kernel
theorem dX4_copyNode_29 : decode cX4_copyNode 29 = .ok (.aload_n 0, 1) := by decide +kernel
theorem dX4_copyNode_30 : decode cX4_copyNode 30 = .ok (.getfield 16, 3) := by decide +kernel
theorem dX4_copyNode_33 : decode cX4_copyNode 33 = .ok (.bipush 32, 2) := by decide +kernel
theorem dX4_copyNode_35 : decode cX4_copyNode 35 = .ok (.iload 5, 2) := by decide +kernel
theorem dX4_copyNode_37 : decode cX4_copyNode 37 = .ok (.imul, 1) := by decide +kernel
theorem dX4_copyNode_38 : decode cX4_copyNode 38 = .ok (.iload 4, 2) := by decide +kernel
theorem dX4_copyNode_40 : decode cX4_copyNode 40 = .ok (.iadd, 1) := by decide +kernel
theorem dX4_copyNode_41 : decode cX4_copyNode 41 = .ok (.iaload, 1) := by decide +kernel
theorem dX4_copyNode_42 : decode cX4_copyNode 42 = .ok (.ifCond .le 44, 3) := by decide +kernel
theorem dX4_copyNode_45 : decode cX4_copyNode 45 = .ok (.aload_n 0, 1) := by decide +kernel
theorem dX4_copyNode_46 : decode cX4_copyNode 46 = .ok (.aload_n 0, 1) := by decide +kernel
theorem dX4_copyNode_47 : decode cX4_copyNode 47 = .ok (.getfield 16, 3) := by decide +kernel
theorem dX4_copyNode_50 : decode cX4_copyNode 50 = .ok (.bipush 32, 2) := by decide +kernel
theorem dX4_copyNode_52 : decode cX4_copyNode 52 = .ok (.aload_n 0, 1) := by decide +kernel
theorem dX4_copyNode_53 : decode cX4_copyNode 53 = .ok (.getfield 53, 3) := by decide +kernel
theorem dX4_copyNode_56 : decode cX4_copyNode 56 = .ok (.iload_n 1, 1) := by decide +kernel
theorem dX4_copyNode_57 : decode cX4_copyNode 57 = .ok (.iaload, 1) := by decide +kernel
theorem dX4_copyNode_58 : decode cX4_copyNode 58 = .ok (.imul, 1) := by decide +kernel
theorem dX4_copyNode_59 : decode cX4_copyNode 59 = .ok (.aload_n 0, 1) := by decide +kernel
theorem dX4_copyNode_60 : decode cX4_copyNode 60 = .ok (.getfield 56, 3) := by decide +kernel
theorem dX4_copyNode_63 : decode cX4_copyNode 63 = .ok (.iload 4, 2) := by decide +kernel
theorem dX4_copyNode_65 : decode cX4_copyNode 65 = .ok (.iaload, 1) := by decide +kernel
theorem dX4_copyNode_66 : decode cX4_copyNode 66 = .ok (.iconst (-1), 1) := by decide +kernel
theorem dX4_copyNode_67 : decode cX4_copyNode 67 = .ok (.if_icmp .ne 8, 3) := by decide +kernel
theorem dX4_copyNode_70 : decode cX4_copyNode 70 = .ok (.iload 4, 2) := by decide +kernel
theorem dX4_copyNode_72 : decode cX4_copyNode 72 = .ok (.goto 10, 3) := by decide +kernel
theorem dX4_copyNode_75 : decode cX4_copyNode 75 = .ok (.aload_n 0, 1) := by decide +kernel
theorem dX4_copyNode_76 : decode cX4_copyNode 76 = .ok (.getfield 56, 3) := by decide +kernel
theorem dX4_copyNode_79 : decode cX4_copyNode 79 = .ok (.iload 4, 2) := by decide +kernel
theorem dX4_copyNode_81 : decode cX4_copyNode 81 = .ok (.iaload, 1) := by decide +kernel
theorem dX4_copyNode_82 : decode cX4_copyNode 82 = .ok (.iadd, 1) := by decide +kernel
theorem dX4_copyNode_83 : decode cX4_copyNode 83 = .ok (.invokevirtual 114, 3) := by decide +kernel
theorem dX4_copyNode_86 : decode cX4_copyNode 86 = .ok (.iinc 5 1, 3) := by decide +kernel
theorem dX4_copyNode_89 : decode cX4_copyNode 89 = .ok (.goto (-77), 3) := by decide +kernel
theorem dX4_copyNode_92 : decode cX4_copyNode 92 = .ok (.iinc 4 1, 3) := by decide +kernel
theorem dX4_copyNode_95 : decode cX4_copyNode 95 = .ok (.goto (-92), 3) := by decide +kernel
theorem dX4_copyNode_98 : decode cX4_copyNode 98 = .ok (.iconst 0, 1) := by decide +kernel
theorem dX4_copyNode_99 : decode cX4_copyNode 99 = .ok (.istore 4, 2) := by decide +kernel
theorem dX4_copyNode_101 : decode cX4_copyNode 101 = .ok (.iload 4, 2) := by decide +kernel
theorem dX4_copyNode_103 : decode cX4_copyNode 103 = .ok (.iload_n 2, 1) := by decide +kernel
theorem dX4_copyNode_104 : decode cX4_copyNode 104 = .ok (.if_icmp .ge 131, 3) := by decide +kernel
theorem dX4_copyNode_107 : decode cX4_copyNode 107 = .ok (.iconst 0, 1) := by decide +kernel
theorem dX4_copyNode_108 : decode cX4_copyNode 108 = .ok (.istore 5, 2) := by decide +kernel
theorem dX4_copyNode_110 : decode cX4_copyNode 110 = .ok (.iload 5, 2) := by decide +kernel
theorem dX4_copyNode_112 : decode cX4_copyNode 112 = .ok (.iload_n 2, 1) := by decide +kernel
theorem dX4_copyNode_113 : decode cX4_copyNode 113 = .ok (.if_icmp .ge 116, 3) := by decide +kernel
theorem dX4_copyNode_116 : decode cX4_copyNode 116 = .ok (.iconst 0, 1) := by decide +kernel
theorem dX4_copyNode_117 : decode cX4_copyNode 117 = .ok (.istore 6, 2) := by decide +kernel
theorem dX4_copyNode_119 : decode cX4_copyNode 119 = .ok (.iload 6, 2) := by decide +kernel
theorem dX4_copyNode_121 : decode cX4_copyNode 121 = .ok (.iload_n 2, 1) := by decide +kernel
theorem dX4_copyNode_122 : decode cX4_copyNode 122 = .ok (.if_icmp .ge 101, 3) := by decide +kernel
theorem dX4_copyNode_125 : decode cX4_copyNode 125 = .ok (.aload_n 0, 1) := by decide +kernel
theorem dX4_copyNode_126 : decode cX4_copyNode 126 = .ok (.getfield 34, 3) := by decide +kernel
theorem dX4_copyNode_129 : decode cX4_copyNode 129 = .ok (.iload 4, 2) := by decide +kernel
theorem dX4_copyNode_131 : decode cX4_copyNode 131 = .ok (.iaload, 1) := by decide +kernel
theorem dX4_copyNode_132 : decode cX4_copyNode 132 = .ok (.iload 4, 2) := by decide +kernel
theorem dX4_copyNode_134 : decode cX4_copyNode 134 = .ok (.if_icmp .ne 89, 3) := by decide +kernel
theorem dX4_copyNode_137 : decode cX4_copyNode 137 = .ok (.aload_n 0, 1) := by decide +kernel
theorem dX4_copyNode_138 : decode cX4_copyNode 138 = .ok (.getfield 34, 3) := by decide +kernel
theorem dX4_copyNode_141 : decode cX4_copyNode 141 = .ok (.iload 5, 2) := by decide +kernel
theorem dX4_copyNode_143 : decode cX4_copyNode 143 = .ok (.iaload, 1) := by decide +kernel
theorem dX4_copyNode_144 : decode cX4_copyNode 144 = .ok (.iload_n 1, 1) := by decide +kernel
theorem dX4_copyNode_145 : decode cX4_copyNode 145 = .ok (.if_icmp .ne 72, 3) := by decide +kernel
theorem dX4_copyNode_148 : decode cX4_copyNode 148 = .ok (.aload_n 0, 1) := by decide +kernel
theorem dX4_copyNode_149 : decode cX4_copyNode 149 = .ok (.getfield 34, 3) := by decide +kernel
theorem dX4_copyNode_152 : decode cX4_copyNode 152 = .ok (.iload 6, 2) := by decide +kernel
theorem dX4_copyNode_154 : decode cX4_copyNode 154 = .ok (.iaload, 1) := by decide +kernel
theorem dX4_copyNode_155 : decode cX4_copyNode 155 = .ok (.iload 4, 2) := by decide +kernel
theorem dX4_copyNode_157 : decode cX4_copyNode 157 = .ok (.if_icmp .ne 60, 3) := by decide +kernel
theorem dX4_copyNode_160 : decode cX4_copyNode 160 = .ok (.aload_n 0, 1) := by decide +kernel
theorem dX4_copyNode_161 : decode cX4_copyNode 161 = .ok (.getfield 19, 3) := by decide +kernel
theorem dX4_copyNode_164 : decode cX4_copyNode 164 = .ok (.bipush 60, 2) := by decide +kernel
theorem dX4_copyNode_166 : decode cX4_copyNode 166 = .ok (.iload 5, 2) := by decide +kernel
theorem dX4_copyNode_168 : decode cX4_copyNode 168 = .ok (.imul, 1) := by decide +kernel
theorem dX4_copyNode_169 : decode cX4_copyNode 169 = .ok (.iload 6, 2) := by decide +kernel
theorem dX4_copyNode_171 : decode cX4_copyNode 171 = .ok (.iadd, 1) := by decide +kernel
theorem dX4_copyNode_172 : decode cX4_copyNode 172 = .ok (.iaload, 1) := by decide +kernel
theorem dX4_copyNode_173 : decode cX4_copyNode 173 = .ok (.ifCond .le 44, 3) := by decide +kernel
theorem dX4_copyNode_176 : decode cX4_copyNode 176 = .ok (.aload_n 0, 1) := by decide +kernel
theorem dX4_copyNode_177 : decode cX4_copyNode 177 = .ok (.aload_n 0, 1) := by decide +kernel
theorem dX4_copyNode_178 : decode cX4_copyNode 178 = .ok (.getfield 19, 3) := by decide +kernel
theorem dX4_copyNode_181 : decode cX4_copyNode 181 = .ok (.bipush 60, 2) := by decide +kernel
theorem dX4_copyNode_183 : decode cX4_copyNode 183 = .ok (.aload_n 0, 1) := by decide +kernel
theorem dX4_copyNode_184 : decode cX4_copyNode 184 = .ok (.getfield 53, 3) := by decide +kernel
theorem dX4_copyNode_187 : decode cX4_copyNode 187 = .ok (.iload_n 1, 1) := by decide +kernel
theorem dX4_copyNode_188 : decode cX4_copyNode 188 = .ok (.iaload, 1) := by decide +kernel
theorem dX4_copyNode_189 : decode cX4_copyNode 189 = .ok (.imul, 1) := by decide +kernel
theorem dX4_copyNode_190 : decode cX4_copyNode 190 = .ok (.aload_n 0, 1) := by decide +kernel
theorem dX4_copyNode_191 : decode cX4_copyNode 191 = .ok (.getfield 53, 3) := by decide +kernel
theorem dX4_copyNode_194 : decode cX4_copyNode 194 = .ok (.iload 4, 2) := by decide +kernel
theorem dX4_copyNode_196 : decode cX4_copyNode 196 = .ok (.iaload, 1) := by decide +kernel
theorem dX4_copyNode_197 : decode cX4_copyNode 197 = .ok (.iconst (-1), 1) := by decide +kernel
theorem dX4_copyNode_198 : decode cX4_copyNode 198 = .ok (.if_icmp .ne 8, 3) := by decide +kernel
theorem dX4_copyNode_201 : decode cX4_copyNode 201 = .ok (.iload 4, 2) := by decide +kernel
theorem dX4_copyNode_203 : decode cX4_copyNode 203 = .ok (.goto 10, 3) := by decide +kernel
theorem dX4_copyNode_206 : decode cX4_copyNode 206 = .ok (.aload_n 0, 1) := by decide +kernel
theorem dX4_copyNode_207 : decode cX4_copyNode 207 = .ok (.getfield 53, 3) := by decide +kernel
theorem dX4_copyNode_210 : decode cX4_copyNode 210 = .ok (.iload 4, 2) := by decide +kernel
theorem dX4_copyNode_212 : decode cX4_copyNode 212 = .ok (.iaload, 1) := by decide +kernel
theorem dX4_copyNode_213 : decode cX4_copyNode 213 = .ok (.iadd, 1) := by decide +kernel
theorem dX4_copyNode_214 : decode cX4_copyNode 214 = .ok (.invokevirtual 114, 3) := by decide +kernel
theorem dX4_copyNode_217 : decode cX4_copyNode 217 = .ok (.iinc 6 1, 3) := by decide +kernel
theorem dX4_copyNode_220 : decode cX4_copyNode 220 = .ok (.goto (-101), 3) := by decide +kernel
theorem dX4_copyNode_223 : decode cX4_copyNode 223 = .ok (.iinc 5 1, 3) := by decide +kernel
theorem dX4_copyNode_226 : decode cX4_copyNode 226 = .ok (.goto (-116), 3) := by decide +kernel
theorem dX4_copyNode_229 : decode cX4_copyNode 229 = .ok (.iinc 4 1, 3) := by decide +kernel
theorem dX4_copyNode_232 : decode cX4_copyNode 232 = .ok (.goto (-131), 3) := by decide +kernel
theorem dX4_copyNode_235 : decode cX4_copyNode 235 = .ok (.return_, 1) := by decide +kernel
theorem dX4_mark_0 : decode cX4_mark 0 = .ok (.aload_n 0, 1) := by decide +kernel
theorem dX4_mark_1 : decode cX4_mark 1 = .ok (.iconst 0, 1) := by decide +kernel
theorem dX4_mark_2 : decode cX4_mark 2 = .ok (.putfield 59, 3) := by decide +kernel
theorem dX4_mark_5 : decode cX4_mark 5 = .ok (.aload_n 0, 1) := by decide +kernel
theorem dX4_mark_6 : decode cX4_mark 6 = .ok (.getfield 133, 3) := by decide +kernel
theorem dX4_mark_9 : decode cX4_mark 9 = .ok (.bipush 20, 2) := by decide +kernel
theorem dX4_mark_11 : decode cX4_mark 11 = .ok (.if_icmp .ne 5, 3) := by decide +kernel
theorem dX4_mark_14 : decode cX4_mark 14 = .ok (.iconst (-1), 1) := by decide +kernel
theorem dX4_mark_15 : decode cX4_mark 15 = .ok (.ireturn, 1) := by decide +kernel
theorem dX4_mark_16 : decode cX4_mark 16 = .ok (.aload_n 0, 1) := by decide +kernel
theorem dX4_mark_17 : decode cX4_mark 17 = .ok (.getfield 25, 3) := by decide +kernel
theorem dX4_mark_20 : decode cX4_mark 20 = .ok (.aload_n 0, 1) := by decide +kernel
theorem dX4_mark_21 : decode cX4_mark 21 = .ok (.getfield 133, 3) := by decide +kernel
theorem dX4_mark_24 : decode cX4_mark 24 = .ok (.aload_n 0, 1) := by decide +kernel
theorem dX4_mark_25 : decode cX4_mark 25 = .ok (.getfield 97, 3) := by decide +kernel
theorem dX4_mark_28 : decode cX4_mark 28 = .ok (.iastore, 1) := by decide +kernel
theorem dX4_mark_29 : decode cX4_mark 29 = .ok (.aload_n 0, 1) := by decide +kernel
theorem dX4_mark_30 : decode cX4_mark 30 = .ok (.getfield 28, 3) := by decide +kernel
theorem dX4_mark_33 : decode cX4_mark 33 = .ok (.aload_n 0, 1) := by decide +kernel
theorem dX4_mark_34 : decode cX4_mark 34 = .ok (.getfield 133, 3) := by decide +kernel
theorem dX4_mark_37 : decode cX4_mark 37 = .ok (.aload_n 0, 1) := by decide +kernel
theorem dX4_mark_38 : decode cX4_mark 38 = .ok (.getfield 63, 3) := by decide +kernel
theorem dX4_mark_41 : decode cX4_mark 41 = .ok (.iastore, 1) := by decide +kernel
theorem dX4_mark_42 : decode cX4_mark 42 = .ok (.aload_n 0, 1) := by decide +kernel
theorem dX4_mark_43 : decode cX4_mark 43 = .ok (.getfield 31, 3) := by decide +kernel
theorem dX4_mark_46 : decode cX4_mark 46 = .ok (.aload_n 0, 1) := by decide +kernel
theorem dX4_mark_47 : decode cX4_mark 47 = .ok (.getfield 133, 3) := by decide +kernel
theorem dX4_mark_50 : decode cX4_mark 50 = .ok (.aload_n 0, 1) := by decide +kernel
theorem dX4_mark_51 : decode cX4_mark 51 = .ok (.getfield 66, 3) := by decide +kernel
theorem dX4_mark_54 : decode cX4_mark 54 = .ok (.iastore, 1) := by decide +kernel
theorem dX4_mark_55 : decode cX4_mark 55 = .ok (.aload_n 0, 1) := by decide +kernel
theorem dX4_mark_56 : decode cX4_mark 56 = .ok (.dup, 1) := by decide +kernel
theorem dX4_mark_57 : decode cX4_mark 57 = .ok (.getfield 133, 3) := by decide +kernel
theorem dX4_mark_60 : decode cX4_mark 60 = .ok (.iconst 1, 1) := by decide +kernel
theorem dX4_mark_61 : decode cX4_mark 61 = .ok (.iadd, 1) := by decide +kernel
theorem dX4_mark_62 : decode cX4_mark 62 = .ok (.putfield 133, 3) := by decide +kernel
theorem dX4_mark_65 : decode cX4_mark 65 = .ok (.aload_n 0, 1) := by decide +kernel
theorem dX4_mark_66 : decode cX4_mark 66 = .ok (.getfield 133, 3) := by decide +kernel
theorem dX4_mark_69 : decode cX4_mark 69 = .ok (.ireturn, 1) := by decide +kernel
theorem dX4_forget_0 : decode cX4_forget 0 = .ok (.iconst 0, 1) := by decide +kernel
theorem dX4_forget_1 : decode cX4_forget 1 = .ok (.istore_n 2, 1) := by decide +kernel
theorem dX4_forget_2 : decode cX4_forget 2 = .ok (.iload_n 2, 1) := by decide +kernel
theorem dX4_forget_3 : decode cX4_forget 3 = .ok (.aload_n 0, 1) := by decide +kernel
theorem dX4_forget_4 : decode cX4_forget 4 = .ok (.arraylength, 1) := by decide +kernel
theorem dX4_forget_5 : decode cX4_forget 5 = .ok (.if_icmp .ge 26, 3) := by decide +kernel
theorem dX4_forget_8 : decode cX4_forget 8 = .ok (.aload_n 0, 1) := by decide +kernel
theorem dX4_forget_9 : decode cX4_forget 9 = .ok (.iload_n 2, 1) := by decide +kernel
theorem dX4_forget_10 : decode cX4_forget 10 = .ok (.aload_n 0, 1) := by decide +kernel
theorem dX4_forget_11 : decode cX4_forget 11 = .ok (.iload_n 2, 1) := by decide +kernel
theorem dX4_forget_12 : decode cX4_forget 12 = .ok (.iaload, 1) := by decide +kernel
theorem dX4_forget_13 : decode cX4_forget 13 = .ok (.iload_n 1, 1) := by decide +kernel
theorem dX4_forget_14 : decode cX4_forget 14 = .ok (.if_icmp .le 7, 3) := by decide +kernel
theorem dX4_forget_17 : decode cX4_forget 17 = .ok (.iconst 0, 1) := by decide +kernel
theorem dX4_forget_18 : decode cX4_forget 18 = .ok (.goto 6, 3) := by decide +kernel
theorem dX4_forget_21 : decode cX4_forget 21 = .ok (.aload_n 0, 1) := by decide +kernel
theorem dX4_forget_22 : decode cX4_forget 22 = .ok (.iload_n 2, 1) := by decide +kernel
theorem dX4_forget_23 : decode cX4_forget 23 = .ok (.iaload, 1) := by decide +kernel
theorem dX4_forget_24 : decode cX4_forget 24 = .ok (.iastore, 1) := by decide +kernel
theorem dX4_forget_25 : decode cX4_forget 25 = .ok (.iinc 2 1, 3) := by decide +kernel
theorem dX4_forget_28 : decode cX4_forget 28 = .ok (.goto (-26), 3) := by decide +kernel
theorem dX4_forget_31 : decode cX4_forget 31 = .ok (.return_, 1) := by decide +kernel
set_option maxRecDepth 20000 in
theorem ggX4_back_X4_goes : GoodIn wsX4_back wsX4_goes := goodIn_r _ [15, 16, 20, 21, 22, 23, 24, 25, 26, 27, 28, 29, 30, 31, 32, 33, 34, 35, 36, 37, 38, 39, 40] (by decide +kernel) (by decide +kernel)
set_option maxRecDepth 20000 in
theorem gX4_back_X4_goes : GoodIn wsX4_back (wsV RX4 87 RX4 yX4_goes wsX4_goes) := goodIn_app (goodIn_of _ (by decide +kernel)) ggX4_back_X4_goes
set_option maxRecDepth 20000 in
theorem ggX4_back_X4_forget : GoodIn wsX4_back wsX4_forget := goodIn_r _ [19] (by decide +kernel) (by decide +kernel)
set_option maxRecDepth 20000 in
theorem gX4_back_X4_forget : GoodIn wsX4_back (va_wsS RX4 136 yX4_forget wsX4_forget) := goodIn_app (goodIn_of _ (by decide +kernel)) ggX4_back_X4_forget
theorem dX4_back_0 : decode cX4_back 0 = .ok (.aload_n 0, 1) := by decide +kernel
theorem dX4_back_1 : decode cX4_back 1 = .ok (.aload_n 0, 1) := by decide +kernel
theorem dX4_back_2 : decode cX4_back 2 = .ok (.getfield 133, 3) := by decide +kernel
theorem dX4_back_5 : decode cX4_back 5 = .ok (.ifCond .le 7, 3) := by decide +kernel
theorem dX4_back_8 : decode cX4_back 8 = .ok (.iconst 1, 1) := by decide +kernel
theorem dX4_back_9 : decode cX4_back 9 = .ok (.goto 4, 3) := by decide +kernel
theorem dX4_back_12 : decode cX4_back 12 = .ok (.iconst 0, 1) := by decide +kernel
theorem dX4_back_13 : decode cX4_back 13 = .ok (.iconst 1, 1) := by decide +kernel
theorem dX4_back_14 : decode cX4_back 14 = .ok (.invokevirtual 87, 3) := by decide +kernel
theorem dX4_back_17 : decode cX4_back 17 = .ok (.ifCond .ne 5, 3) := by decide +kernel
theorem dX4_back_20 : decode cX4_back 20 = .ok (.iconst 0, 1) := by decide +kernel
theorem dX4_back_21 : decode cX4_back 21 = .ok (.ireturn, 1) := by decide +kernel
theorem dX4_back_22 : decode cX4_back 22 = .ok (.aload_n 0, 1) := by decide +kernel
theorem dX4_back_23 : decode cX4_back 23 = .ok (.dup, 1) := by decide +kernel
theorem dX4_back_24 : decode cX4_back 24 = .ok (.getfield 133, 3) := by decide +kernel
theorem dX4_back_27 : decode cX4_back 27 = .ok (.iconst 1, 1) := by decide +kernel
theorem dX4_back_28 : decode cX4_back 28 = .ok (.isub, 1) := by decide +kernel
theorem dX4_back_29 : decode cX4_back 29 = .ok (.putfield 133, 3) := by decide +kernel
theorem dX4_back_32 : decode cX4_back 32 = .ok (.aload_n 0, 1) := by decide +kernel
theorem dX4_back_33 : decode cX4_back 33 = .ok (.aload_n 0, 1) := by decide +kernel
theorem dX4_back_34 : decode cX4_back 34 = .ok (.getfield 25, 3) := by decide +kernel
theorem dX4_back_37 : decode cX4_back 37 = .ok (.aload_n 0, 1) := by decide +kernel
theorem dX4_back_38 : decode cX4_back 38 = .ok (.getfield 133, 3) := by decide +kernel
theorem dX4_back_41 : decode cX4_back 41 = .ok (.iaload, 1) := by decide +kernel
theorem dX4_back_42 : decode cX4_back 42 = .ok (.putfield 97, 3) := by decide +kernel
theorem dX4_back_45 : decode cX4_back 45 = .ok (.aload_n 0, 1) := by decide +kernel
theorem dX4_back_46 : decode cX4_back 46 = .ok (.aload_n 0, 1) := by decide +kernel
theorem dX4_back_47 : decode cX4_back 47 = .ok (.getfield 28, 3) := by decide +kernel
theorem dX4_back_50 : decode cX4_back 50 = .ok (.aload_n 0, 1) := by decide +kernel
theorem dX4_back_51 : decode cX4_back 51 = .ok (.getfield 133, 3) := by decide +kernel
theorem dX4_back_54 : decode cX4_back 54 = .ok (.iaload, 1) := by decide +kernel
theorem dX4_back_55 : decode cX4_back 55 = .ok (.putfield 63, 3) := by decide +kernel
theorem dX4_back_58 : decode cX4_back 58 = .ok (.aload_n 0, 1) := by decide +kernel
theorem dX4_back_59 : decode cX4_back 59 = .ok (.aload_n 0, 1) := by decide +kernel
theorem dX4_back_60 : decode cX4_back 60 = .ok (.getfield 31, 3) := by decide +kernel
theorem dX4_back_63 : decode cX4_back 63 = .ok (.aload_n 0, 1) := by decide +kernel
theorem dX4_back_64 : decode cX4_back 64 = .ok (.getfield 133, 3) := by decide +kernel
theorem dX4_back_67 : decode cX4_back 67 = .ok (.iaload, 1) := by decide +kernel
theorem dX4_back_68 : decode cX4_back 68 = .ok (.putfield 66, 3) := by decide +kernel
theorem dX4_back_71 : decode cX4_back 71 = .ok (.aload_n 0, 1) := by decide +kernel
theorem dX4_back_72 : decode cX4_back 72 = .ok (.getfield 16, 3) := by decide +kernel
theorem dX4_back_75 : decode cX4_back 75 = .ok (.aload_n 0, 1) := by decide +kernel
theorem dX4_back_76 : decode cX4_back 76 = .ok (.getfield 97, 3) := by decide +kernel
theorem dX4_back_79 : decode cX4_back 79 = .ok (.invokestatic 136, 3) := by decide +kernel
theorem dX4_back_82 : decode cX4_back 82 = .ok (.aload_n 0, 1) := by decide +kernel
theorem dX4_back_83 : decode cX4_back 83 = .ok (.getfield 19, 3) := by decide +kernel
theorem dX4_back_86 : decode cX4_back 86 = .ok (.aload_n 0, 1) := by decide +kernel
theorem dX4_back_87 : decode cX4_back 87 = .ok (.getfield 97, 3) := by decide +kernel
theorem dX4_back_90 : decode cX4_back 90 = .ok (.invokestatic 136, 3) := by decide +kernel
theorem dX4_back_93 : decode cX4_back 93 = .ok (.aload_n 0, 1) := by decide +kernel
theorem dX4_back_94 : decode cX4_back 94 = .ok (.getfield 22, 3) := by decide +kernel
theorem dX4_back_97 : decode cX4_back 97 = .ok (.aload_n 0, 1) := by decide +kernel
theorem dX4_back_98 : decode cX4_back 98 = .ok (.getfield 97, 3) := by decide +kernel
theorem dX4_back_101 : decode cX4_back 101 = .ok (.invokestatic 136, 3) := by decide +kernel
theorem dX4_back_104 : decode cX4_back 104 = .ok (.aload_n 0, 1) := by decide +kernel
theorem dX4_back_105 : decode cX4_back 105 = .ok (.getfield 133, 3) := by decide +kernel
theorem dX4_back_108 : decode cX4_back 108 = .ok (.iconst 1, 1) := by decide +kernel
theorem dX4_back_109 : decode cX4_back 109 = .ok (.iadd, 1) := by decide +kernel
theorem dX4_back_110 : decode cX4_back 110 = .ok (.ireturn, 1) := by decide +kernel
set_option maxRecDepth 20000 in
theorem ggX4_set_X4_isVariable : GoodIn wsX4_set wsX4_isVariable := goodIn_r _ [6, 7, 44, 45, 46, 47, 48, 49, 50, 51, 52, 53, 54, 55, 56, 57, 58, 59, 60, 61, 62, 63, 64] (by decide +kernel) (by decide +kernel)
set_option maxRecDepth 20000 in
theorem gX4_set_X4_isVariable : GoodIn wsX4_set (wsV RX4 100 RX4 yX4_isVariable wsX4_isVariable) := goodIn_app (goodIn_of _ (by decide +kernel)) ggX4_set_X4_isVariable
set_option maxRecDepth 20000 in
theorem ggX4_set_X4_goes : GoodIn wsX4_set wsX4_goes := goodIn_r _ [11, 12, 44, 45, 46, 47, 48, 49, 50, 51, 52, 53, 54, 55, 56, 57, 58, 59, 60, 61, 62, 63, 64] (by decide +kernel) (by decide +kernel)
set_option maxRecDepth 20000 in
theorem gX4_set_X4_goes : GoodIn wsX4_set (wsV RX4 87 RX4 yX4_goes wsX4_goes) := goodIn_app (goodIn_of _ (by decide +kernel)) ggX4_set_X4_goes
set_option maxRecDepth 20000 in
theorem ggX4_set_X4_workOut : GoodIn wsX4_set wsX4_workOut := goodIn_r _ [16, 17, 18, 19, 5, 20, 7, 21, 22, 23, 24, 25, 26, 27, 28, 29, 30, 31, 32, 33, 1, 34, 35, 36, 37, 38, 39, 40, 41, 42, 43, 44, 45, 46, 47, 48, 49, 50, 51, 52, 53, 54, 55, 56, 57, 58, 59, 60, 61, 62, 63, 64] (by decide +kernel) (by decide +kernel)
set_option maxRecDepth 20000 in
theorem gX4_set_X4_workOut : GoodIn wsX4_set (wsV RX4 107 RX4 yX4_workOut wsX4_workOut) := goodIn_app (goodIn_of _ (by decide +kernel)) ggX4_set_X4_workOut
theorem dX4_set_0 : decode cX4_set 0 = .ok (.aload_n 0, 1) := by decide +kernel
theorem dX4_set_1 : decode cX4_set 1 = .ok (.aload_n 0, 1) := by decide +kernel
theorem dX4_set_2 : decode cX4_set 2 = .ok (.iload_n 1, 1) := by decide +kernel
theorem dX4_set_3 : decode cX4_set 3 = .ok (.invokevirtual 100, 3) := by decide +kernel
theorem dX4_set_6 : decode cX4_set 6 = .ok (.iconst 1, 1) := by decide +kernel
theorem dX4_set_7 : decode cX4_set 7 = .ok (.invokevirtual 87, 3) := by decide +kernel
theorem dX4_set_10 : decode cX4_set 10 = .ok (.ifCond .ne 5, 3) := by decide +kernel
theorem dX4_set_13 : decode cX4_set 13 = .ok (.iconst 0, 1) := by decide +kernel
theorem dX4_set_14 : decode cX4_set 14 = .ok (.ireturn, 1) := by decide +kernel
theorem dX4_set_15 : decode cX4_set 15 = .ok (.aload_n 0, 1) := by decide +kernel
theorem dX4_set_16 : decode cX4_set 16 = .ok (.invokevirtual 107, 3) := by decide +kernel
theorem dX4_set_19 : decode cX4_set 19 = .ok (.aload_n 0, 1) := by decide +kernel
theorem dX4_set_20 : decode cX4_set 20 = .ok (.getfield 41, 3) := by decide +kernel
theorem dX4_set_23 : decode cX4_set 23 = .ok (.iload_n 1, 1) := by decide +kernel
theorem dX4_set_24 : decode cX4_set 24 = .ok (.iaload, 1) := by decide +kernel
theorem dX4_set_25 : decode cX4_set 25 = .ok (.ireturn, 1) := by decide +kernel
set_option maxRecDepth 20000 in
theorem ggX4_seen_X4_isVariable : GoodIn wsX4_seen wsX4_isVariable := goodIn_r _ [8, 9, 44, 45, 46, 47, 48, 49, 50, 51, 52, 53, 54, 55, 56, 57, 58, 59, 60, 61, 62, 63, 64] (by decide +kernel) (by decide +kernel)
set_option maxRecDepth 20000 in
theorem gX4_seen_X4_isVariable : GoodIn wsX4_seen (wsV RX4 100 RX4 yX4_isVariable wsX4_isVariable) := goodIn_app (goodIn_of _ (by decide +kernel)) ggX4_seen_X4_isVariable
set_option maxRecDepth 20000 in
theorem ggX4_seen_X4_goes : GoodIn wsX4_seen wsX4_goes := goodIn_r _ [13, 14, 44, 45, 46, 47, 48, 49, 50, 51, 52, 53, 54, 55, 56, 57, 58, 59, 60, 61, 62, 63, 64] (by decide +kernel) (by decide +kernel)
set_option maxRecDepth 20000 in
theorem gX4_seen_X4_goes : GoodIn wsX4_seen (wsV RX4 87 RX4 yX4_goes wsX4_goes) := goodIn_app (goodIn_of _ (by decide +kernel)) ggX4_seen_X4_goes
set_option maxRecDepth 20000 in
theorem ggX4_seen_X4_workOut : GoodIn wsX4_seen wsX4_workOut := goodIn_r _ [18, 19, 20, 21, 7, 22, 9, 23, 24, 25, 26, 27, 28, 29, 30, 31, 32, 33, 34, 35, 3, 1, 36, 37, 38, 39, 40, 41, 42, 2, 43, 44, 45, 46, 47, 48, 49, 50, 51, 52, 53, 54, 55, 56, 57, 58, 59, 60, 61, 62, 63, 64] (by decide +kernel) (by decide +kernel)
set_option maxRecDepth 20000 in
theorem gX4_seen_X4_workOut : GoodIn wsX4_seen (wsV RX4 107 RX4 yX4_workOut wsX4_workOut) := goodIn_app (goodIn_of _ (by decide +kernel)) ggX4_seen_X4_workOut
theorem dX4_seen_0 : decode cX4_seen 0 = .ok (.aload_n 0, 1) := by decide +kernel
theorem dX4_seen_1 : decode cX4_seen 1 = .ok (.aload_n 0, 1) := by decide +kernel
theorem dX4_seen_2 : decode cX4_seen 2 = .ok (.iload_n 1, 1) := by decide +kernel
theorem dX4_seen_3 : decode cX4_seen 3 = .ok (.invokevirtual 100, 3) := by decide +kernel
theorem dX4_seen_6 : decode cX4_seen 6 = .ok (.iconst 1, 1) := by decide +kernel
theorem dX4_seen_7 : decode cX4_seen 7 = .ok (.invokevirtual 87, 3) := by decide +kernel
theorem dX4_seen_10 : decode cX4_seen 10 = .ok (.ifCond .ne 5, 3) := by decide +kernel
theorem dX4_seen_13 : decode cX4_seen 13 = .ok (.iconst 0, 1) := by decide +kernel
theorem dX4_seen_14 : decode cX4_seen 14 = .ok (.ireturn, 1) := by decide +kernel
theorem dX4_seen_15 : decode cX4_seen 15 = .ok (.aload_n 0, 1) := by decide +kernel
theorem dX4_seen_16 : decode cX4_seen 16 = .ok (.invokevirtual 107, 3) := by decide +kernel
theorem dX4_seen_19 : decode cX4_seen 19 = .ok (.iconst 0, 1) := by decide +kernel
theorem dX4_seen_20 : decode cX4_seen 20 = .ok (.istore_n 3, 1) := by decide +kernel
theorem dX4_seen_21 : decode cX4_seen 21 = .ok (.iconst 0, 1) := by decide +kernel
theorem dX4_seen_22 : decode cX4_seen 22 = .ok (.istore 4, 2) := by decide +kernel
theorem dX4_seen_24 : decode cX4_seen 24 = .ok (.iload 4, 2) := by decide +kernel
theorem dX4_seen_26 : decode cX4_seen 26 = .ok (.aload_n 0, 1) := by decide +kernel
theorem dX4_seen_27 : decode cX4_seen 27 = .ok (.getfield 66, 3) := by decide +kernel
theorem dX4_seen_30 : decode cX4_seen 30 = .ok (.if_icmp .ge 38, 3) := by decide +kernel
theorem dX4_seen_33 : decode cX4_seen 33 = .ok (.iload_n 3, 1) := by decide +kernel
theorem dX4_seen_34 : decode cX4_seen 34 = .ok (.aload_n 0, 1) := by decide +kernel
theorem dX4_seen_35 : decode cX4_seen 35 = .ok (.getfield 47, 3) := by decide +kernel
theorem dX4_seen_38 : decode cX4_seen 38 = .ok (.iload 4, 2) := by decide +kernel
theorem dX4_seen_40 : decode cX4_seen 40 = .ok (.iaload, 1) := by decide +kernel
theorem dX4_seen_41 : decode cX4_seen 41 = .ok (.iload_n 2, 1) := by decide +kernel
theorem dX4_seen_42 : decode cX4_seen 42 = .ok (.if_icmp .gt 17, 3) := by decide +kernel
theorem dX4_seen_45 : decode cX4_seen 45 = .ok (.aload_n 0, 1) := by decide +kernel
theorem dX4_seen_46 : decode cX4_seen 46 = .ok (.getfield 41, 3) := by decide +kernel
theorem dX4_seen_49 : decode cX4_seen 49 = .ok (.iload_n 1, 1) := by decide +kernel
theorem dX4_seen_50 : decode cX4_seen 50 = .ok (.iaload, 1) := by decide +kernel
theorem dX4_seen_51 : decode cX4_seen 51 = .ok (.iconst 1, 1) := by decide +kernel
theorem dX4_seen_52 : decode cX4_seen 52 = .ok (.iload 4, 2) := by decide +kernel
theorem dX4_seen_54 : decode cX4_seen 54 = .ok (.ishl, 1) := by decide +kernel
theorem dX4_seen_55 : decode cX4_seen 55 = .ok (.iand, 1) := by decide +kernel
theorem dX4_seen_56 : decode cX4_seen 56 = .ok (.goto 4, 3) := by decide +kernel
theorem dX4_seen_59 : decode cX4_seen 59 = .ok (.iconst 0, 1) := by decide +kernel
theorem dX4_seen_60 : decode cX4_seen 60 = .ok (.ior, 1) := by decide +kernel
theorem dX4_seen_61 : decode cX4_seen 61 = .ok (.istore_n 3, 1) := by decide +kernel
theorem dX4_seen_62 : decode cX4_seen 62 = .ok (.iinc 4 1, 3) := by decide +kernel
theorem dX4_seen_65 : decode cX4_seen 65 = .ok (.goto (-41), 3) := by decide +kernel
theorem dX4_seen_68 : decode cX4_seen 68 = .ok (.iload_n 3, 1) := by decide +kernel
theorem dX4_seen_69 : decode cX4_seen 69 = .ok (.ireturn, 1) := by decide +kernel
set_option maxRecDepth 20000 in
theorem ggX4_reach_X4_isVariable : GoodIn wsX4_reach wsX4_isVariable := goodIn_r _ [6, 7, 44, 45, 46, 47, 48, 49, 50, 51, 52, 53, 54, 55, 56, 57, 58, 59, 60, 61, 62, 63, 64] (by decide +kernel) (by decide +kernel)
set_option maxRecDepth 20000 in
theorem gX4_reach_X4_isVariable : GoodIn wsX4_reach (wsV RX4 100 RX4 yX4_isVariable wsX4_isVariable) := goodIn_app (goodIn_of _ (by decide +kernel)) ggX4_reach_X4_isVariable
set_option maxRecDepth 20000 in
theorem ggX4_reach_X4_goes : GoodIn wsX4_reach wsX4_goes := goodIn_r _ [11, 12, 44, 45, 46, 47, 48, 49, 50, 51, 52, 53, 54, 55, 56, 57, 58, 59, 60, 61, 62, 63, 64] (by decide +kernel) (by decide +kernel)
set_option maxRecDepth 20000 in
theorem gX4_reach_X4_goes : GoodIn wsX4_reach (wsV RX4 87 RX4 yX4_goes wsX4_goes) := goodIn_app (goodIn_of _ (by decide +kernel)) ggX4_reach_X4_goes
set_option maxRecDepth 20000 in
theorem ggX4_reach_X4_workOut : GoodIn wsX4_reach wsX4_workOut := goodIn_r _ [16, 17, 18, 19, 5, 20, 7, 21, 22, 23, 24, 25, 26, 1, 27, 28, 29, 30, 31, 32, 33, 34, 35, 36, 37, 38, 39, 40, 41, 42, 43, 44, 45, 46, 47, 48, 49, 50, 51, 52, 53, 54, 55, 56, 57, 58, 59, 60, 61, 62, 63, 64] (by decide +kernel) (by decide +kernel)
set_option maxRecDepth 20000 in
theorem gX4_reach_X4_workOut : GoodIn wsX4_reach (wsV RX4 107 RX4 yX4_workOut wsX4_workOut) := goodIn_app (goodIn_of _ (by decide +kernel)) ggX4_reach_X4_workOut
theorem dX4_reach_0 : decode cX4_reach 0 = .ok (.aload_n 0, 1) := by decide +kernel
theorem dX4_reach_1 : decode cX4_reach 1 = .ok (.aload_n 0, 1) := by decide +kernel
theorem dX4_reach_2 : decode cX4_reach 2 = .ok (.iload_n 1, 1) := by decide +kernel
theorem dX4_reach_3 : decode cX4_reach 3 = .ok (.invokevirtual 100, 3) := by decide +kernel
theorem dX4_reach_6 : decode cX4_reach 6 = .ok (.iconst 1, 1) := by decide +kernel
theorem dX4_reach_7 : decode cX4_reach 7 = .ok (.invokevirtual 87, 3) := by decide +kernel
theorem dX4_reach_10 : decode cX4_reach 10 = .ok (.ifCond .ne 5, 3) := by decide +kernel
theorem dX4_reach_13 : decode cX4_reach 13 = .ok (.lconst 0, 1) := by decide +kernel
theorem dX4_reach_14 : decode cX4_reach 14 = .ok (.lreturn, 1) := by decide +kernel
theorem dX4_reach_15 : decode cX4_reach 15 = .ok (.aload_n 0, 1) := by decide +kernel
theorem dX4_reach_16 : decode cX4_reach 16 = .ok (.invokevirtual 107, 3) := by decide +kernel
theorem dX4_reach_19 : decode cX4_reach 19 = .ok (.aload_n 0, 1) := by decide +kernel
theorem dX4_reach_20 : decode cX4_reach 20 = .ok (.getfield 37, 3) := by decide +kernel
theorem dX4_reach_23 : decode cX4_reach 23 = .ok (.iload_n 1, 1) := by decide +kernel
theorem dX4_reach_24 : decode cX4_reach 24 = .ok (.laload, 1) := by decide +kernel
theorem dX4_reach_25 : decode cX4_reach 25 = .ok (.lreturn, 1) := by decide +kernel
set_option maxRecDepth 20000 in
theorem ggX4_of_X4_isVariable : GoodIn wsX4_of wsX4_isVariable := goodIn_r _ [9, 1, 48, 49, 50, 51, 52, 53, 54, 55, 56, 57, 58, 59, 60, 61, 62, 63, 64, 65, 66, 67, 68] (by decide +kernel) (by decide +kernel)
set_option maxRecDepth 20000 in
theorem gX4_of_X4_isVariable : GoodIn wsX4_of (wsV RX4 100 RX4 yX4_isVariable wsX4_isVariable) := goodIn_app (goodIn_of _ (by decide +kernel)) ggX4_of_X4_isVariable
set_option maxRecDepth 20000 in
theorem ggX4_of_X4_goes : GoodIn wsX4_of wsX4_goes := goodIn_r _ [13, 14, 48, 49, 50, 51, 52, 53, 54, 55, 56, 57, 58, 59, 60, 61, 62, 63, 64, 65, 66, 67, 68] (by decide +kernel) (by decide +kernel)
set_option maxRecDepth 20000 in
theorem gX4_of_X4_goes : GoodIn wsX4_of (wsV RX4 87 RX4 yX4_goes wsX4_goes) := goodIn_app (goodIn_of _ (by decide +kernel)) ggX4_of_X4_goes
set_option maxRecDepth 20000 in
theorem ggX4_of_X4_workOut : GoodIn wsX4_of wsX4_workOut := goodIn_r _ [18, 19, 20, 21, 8, 22, 1, 2, 23, 24, 25, 26, 27, 28, 29, 30, 31, 32, 33, 34, 35, 36, 37, 38, 39, 40, 41, 3, 4, 42, 43, 48, 49, 50, 51, 52, 53, 54, 55, 56, 57, 58, 59, 60, 61, 62, 63, 64, 65, 66, 67, 68] (by decide +kernel) (by decide +kernel)
set_option maxRecDepth 20000 in
theorem gX4_of_X4_workOut : GoodIn wsX4_of (wsV RX4 107 RX4 yX4_workOut wsX4_workOut) := goodIn_app (goodIn_of _ (by decide +kernel)) ggX4_of_X4_workOut
set_option maxRecDepth 20000 in
theorem ggX4_of_X4_ring : GoodIn wsX4_of wsX4_ring := goodIn_r _ [47, 28, 2, 48, 49, 50, 51, 52, 53, 54, 55, 56, 57, 58, 59, 60, 61, 62, 63, 64, 65, 66, 67, 68] (by decide +kernel) (by decide +kernel)
set_option maxRecDepth 20000 in
theorem gX4_of_X4_ring : GoodIn wsX4_of (wsV RX4 122 RX4 yX4_ring wsX4_ring) := goodIn_app (goodIn_of _ (by decide +kernel)) ggX4_of_X4_ring
theorem dX4_of_0 : decode cX4_of 0 = .ok (.aload_n 0, 1) := by decide +kernel
theorem dX4_of_1 : decode cX4_of 1 = .ok (.aload_n 0, 1) := by decide +kernel
theorem dX4_of_2 : decode cX4_of 2 = .ok (.iload_n 1, 1) := by decide +kernel
theorem dX4_of_3 : decode cX4_of 3 = .ok (.invokevirtual 100, 3) := by decide +kernel
theorem dX4_of_6 : decode cX4_of 6 = .ok (.iconst 1, 1) := by decide +kernel
theorem dX4_of_7 : decode cX4_of 7 = .ok (.invokevirtual 87, 3) := by decide +kernel
theorem dX4_of_10 : decode cX4_of 10 = .ok (.ifCond .ne 5, 3) := by decide +kernel
theorem dX4_of_13 : decode cX4_of 13 = .ok (.iconst 0, 1) := by decide +kernel
theorem dX4_of_14 : decode cX4_of 14 = .ok (.ireturn, 1) := by decide +kernel
theorem dX4_of_15 : decode cX4_of 15 = .ok (.aload_n 0, 1) := by decide +kernel
theorem dX4_of_16 : decode cX4_of 16 = .ok (.invokevirtual 107, 3) := by decide +kernel
theorem dX4_of_19 : decode cX4_of 19 = .ok (.iconst 0, 1) := by decide +kernel
theorem dX4_of_20 : decode cX4_of 20 = .ok (.istore_n 3, 1) := by decide +kernel
theorem dX4_of_21 : decode cX4_of 21 = .ok (.iconst 0, 1) := by decide +kernel
theorem dX4_of_22 : decode cX4_of 22 = .ok (.istore 4, 2) := by decide +kernel
theorem dX4_of_24 : decode cX4_of 24 = .ok (.iload 4, 2) := by decide +kernel
theorem dX4_of_26 : decode cX4_of 26 = .ok (.aload_n 0, 1) := by decide +kernel
theorem dX4_of_27 : decode cX4_of 27 = .ok (.getfield 63, 3) := by decide +kernel
theorem dX4_of_30 : decode cX4_of 30 = .ok (.if_icmp .ge 33, 3) := by decide +kernel
theorem dX4_of_33 : decode cX4_of 33 = .ok (.iload_n 3, 1) := by decide +kernel
theorem dX4_of_34 : decode cX4_of 34 = .ok (.aload_n 0, 1) := by decide +kernel
theorem dX4_of_35 : decode cX4_of 35 = .ok (.getfield 34, 3) := by decide +kernel
theorem dX4_of_38 : decode cX4_of 38 = .ok (.iload 4, 2) := by decide +kernel
theorem dX4_of_40 : decode cX4_of 40 = .ok (.iaload, 1) := by decide +kernel
theorem dX4_of_41 : decode cX4_of 41 = .ok (.aload_n 0, 1) := by decide +kernel
theorem dX4_of_42 : decode cX4_of 42 = .ok (.getfield 34, 3) := by decide +kernel
theorem dX4_of_45 : decode cX4_of 45 = .ok (.iload_n 1, 1) := by decide +kernel
theorem dX4_of_46 : decode cX4_of 46 = .ok (.iaload, 1) := by decide +kernel
theorem dX4_of_47 : decode cX4_of 47 = .ok (.if_icmp .ne 7, 3) := by decide +kernel
theorem dX4_of_50 : decode cX4_of 50 = .ok (.iconst 1, 1) := by decide +kernel
theorem dX4_of_51 : decode cX4_of 51 = .ok (.goto 4, 3) := by decide +kernel
theorem dX4_of_54 : decode cX4_of 54 = .ok (.iconst 0, 1) := by decide +kernel
theorem dX4_of_55 : decode cX4_of 55 = .ok (.iadd, 1) := by decide +kernel
theorem dX4_of_56 : decode cX4_of 56 = .ok (.istore_n 3, 1) := by decide +kernel
theorem dX4_of_57 : decode cX4_of 57 = .ok (.iinc 4 1, 3) := by decide +kernel
theorem dX4_of_60 : decode cX4_of 60 = .ok (.goto (-36), 3) := by decide +kernel
theorem dX4_of_63 : decode cX4_of 63 = .ok (.iload_n 2, 1) := by decide +kernel
theorem dX4_of_64 : decode cX4_of 64 = .ok (.tableswitch 65 0 4 #[36, 43, 49, 56, 63], 36) := by decide +kernel
theorem dX4_of_100 : decode cX4_of 100 = .ok (.aload_n 0, 1) := by decide +kernel
theorem dX4_of_101 : decode cX4_of 101 = .ok (.getfield 34, 3) := by decide +kernel
theorem dX4_of_104 : decode cX4_of 104 = .ok (.iload_n 1, 1) := by decide +kernel
theorem dX4_of_105 : decode cX4_of 105 = .ok (.iaload, 1) := by decide +kernel
theorem dX4_of_106 : decode cX4_of 106 = .ok (.ireturn, 1) := by decide +kernel
theorem dX4_of_107 : decode cX4_of 107 = .ok (.aload_n 0, 1) := by decide +kernel
theorem dX4_of_108 : decode cX4_of 108 = .ok (.iload_n 1, 1) := by decide +kernel
theorem dX4_of_109 : decode cX4_of 109 = .ok (.invokevirtual 122, 3) := by decide +kernel
theorem dX4_of_112 : decode cX4_of 112 = .ok (.ireturn, 1) := by decide +kernel
theorem dX4_of_113 : decode cX4_of 113 = .ok (.aload_n 0, 1) := by decide +kernel
theorem dX4_of_114 : decode cX4_of 114 = .ok (.getfield 44, 3) := by decide +kernel
theorem dX4_of_117 : decode cX4_of 117 = .ok (.iload_n 1, 1) := by decide +kernel
theorem dX4_of_118 : decode cX4_of 118 = .ok (.iaload, 1) := by decide +kernel
theorem dX4_of_119 : decode cX4_of 119 = .ok (.ireturn, 1) := by decide +kernel
theorem dX4_of_120 : decode cX4_of 120 = .ok (.aload_n 0, 1) := by decide +kernel
theorem dX4_of_121 : decode cX4_of 121 = .ok (.getfield 7, 3) := by decide +kernel
theorem dX4_of_124 : decode cX4_of 124 = .ok (.iload_n 1, 1) := by decide +kernel
theorem dX4_of_125 : decode cX4_of 125 = .ok (.iaload, 1) := by decide +kernel
theorem dX4_of_126 : decode cX4_of 126 = .ok (.ireturn, 1) := by decide +kernel
theorem dX4_of_127 : decode cX4_of 127 = .ok (.iload_n 3, 1) := by decide +kernel
theorem dX4_of_128 : decode cX4_of 128 = .ok (.ireturn, 1) := by decide +kernel
theorem dX4_of_129 : decode cX4_of 129 = .ok (.iconst (-1), 1) := by decide +kernel
theorem dX4_of_130 : decode cX4_of 130 = .ok (.ireturn, 1) := by decide +kernel
set_option maxRecDepth 20000 in
theorem ggX4_ofAtom_X4_isAtom : GoodIn wsX4_ofAtom wsX4_isAtom := goodIn_r _ [9, 10, 44, 45, 46, 47, 48, 49, 50, 51, 52, 53, 54, 55, 56, 57, 58, 59, 60, 61, 62, 63, 64] (by decide +kernel) (by decide +kernel)
set_option maxRecDepth 20000 in
theorem gX4_ofAtom_X4_isAtom : GoodIn wsX4_ofAtom (wsV RX4 104 RX4 yX4_isAtom wsX4_isAtom) := goodIn_app (goodIn_of _ (by decide +kernel)) ggX4_ofAtom_X4_isAtom
set_option maxRecDepth 20000 in
theorem ggX4_ofAtom_X4_goes : GoodIn wsX4_ofAtom wsX4_goes := goodIn_r _ [14, 15, 44, 45, 46, 47, 48, 49, 50, 51, 52, 53, 54, 55, 56, 57, 58, 59, 60, 61, 62, 63, 64] (by decide +kernel) (by decide +kernel)
set_option maxRecDepth 20000 in
theorem gX4_ofAtom_X4_goes : GoodIn wsX4_ofAtom (wsV RX4 87 RX4 yX4_goes wsX4_goes) := goodIn_app (goodIn_of _ (by decide +kernel)) ggX4_ofAtom_X4_goes
set_option maxRecDepth 20000 in
theorem ggX4_ofAtom_X4_workOut : GoodIn wsX4_ofAtom wsX4_workOut := goodIn_r _ [19, 20, 21, 22, 8, 23, 1, 24, 25, 26, 27, 28, 29, 30, 31, 32, 33, 34, 35, 36, 2, 10, 37, 38, 39, 40, 41, 42, 43, 3, 4, 44, 45, 46, 47, 48, 49, 50, 51, 52, 53, 54, 55, 56, 57, 58, 59, 60, 61, 62, 63, 64] (by decide +kernel) (by decide +kernel)
set_option maxRecDepth 20000 in
theorem gX4_ofAtom_X4_workOut : GoodIn wsX4_ofAtom (wsV RX4 107 RX4 yX4_workOut wsX4_workOut) := goodIn_app (goodIn_of _ (by decide +kernel)) ggX4_ofAtom_X4_workOut
theorem dX4_ofAtom_0 : decode cX4_ofAtom 0 = .ok (.aload_n 0, 1) := by decide +kernel
theorem dX4_ofAtom_1 : decode cX4_ofAtom 1 = .ok (.aload_n 0, 1) := by decide +kernel
theorem dX4_ofAtom_2 : decode cX4_ofAtom 2 = .ok (.iload_n 1, 1) := by decide +kernel
theorem dX4_ofAtom_3 : decode cX4_ofAtom 3 = .ok (.invokevirtual 104, 3) := by decide +kernel
theorem dX4_ofAtom_6 : decode cX4_ofAtom 6 = .ok (.iconst 1, 1) := by decide +kernel
theorem dX4_ofAtom_7 : decode cX4_ofAtom 7 = .ok (.invokevirtual 87, 3) := by decide +kernel
theorem dX4_ofAtom_10 : decode cX4_ofAtom 10 = .ok (.ifCond .ne 5, 3) := by decide +kernel
theorem dX4_ofAtom_13 : decode cX4_ofAtom 13 = .ok (.iconst 0, 1) := by decide +kernel
theorem dX4_ofAtom_14 : decode cX4_ofAtom 14 = .ok (.ireturn, 1) := by decide +kernel
theorem dX4_ofAtom_15 : decode cX4_ofAtom 15 = .ok (.aload_n 0, 1) := by decide +kernel
theorem dX4_ofAtom_16 : decode cX4_ofAtom 16 = .ok (.invokevirtual 107, 3) := by decide +kernel
theorem dX4_ofAtom_19 : decode cX4_ofAtom 19 = .ok (.iconst 0, 1) := by decide +kernel
theorem dX4_ofAtom_20 : decode cX4_ofAtom 20 = .ok (.istore_n 3, 1) := by decide +kernel
theorem dX4_ofAtom_21 : decode cX4_ofAtom 21 = .ok (.iconst 0, 1) := by decide +kernel
theorem dX4_ofAtom_22 : decode cX4_ofAtom 22 = .ok (.istore 4, 2) := by decide +kernel
theorem dX4_ofAtom_24 : decode cX4_ofAtom 24 = .ok (.iload 4, 2) := by decide +kernel
theorem dX4_ofAtom_26 : decode cX4_ofAtom 26 = .ok (.aload_n 0, 1) := by decide +kernel
theorem dX4_ofAtom_27 : decode cX4_ofAtom 27 = .ok (.getfield 63, 3) := by decide +kernel
theorem dX4_ofAtom_30 : decode cX4_ofAtom 30 = .ok (.if_icmp .ge 23, 3) := by decide +kernel
theorem dX4_ofAtom_33 : decode cX4_ofAtom 33 = .ok (.iload_n 3, 1) := by decide +kernel
theorem dX4_ofAtom_34 : decode cX4_ofAtom 34 = .ok (.aload_n 0, 1) := by decide +kernel
theorem dX4_ofAtom_35 : decode cX4_ofAtom 35 = .ok (.getfield 41, 3) := by decide +kernel
theorem dX4_ofAtom_38 : decode cX4_ofAtom 38 = .ok (.iload 4, 2) := by decide +kernel
theorem dX4_ofAtom_40 : decode cX4_ofAtom 40 = .ok (.iaload, 1) := by decide +kernel
theorem dX4_ofAtom_41 : decode cX4_ofAtom 41 = .ok (.iload_n 1, 1) := by decide +kernel
theorem dX4_ofAtom_42 : decode cX4_ofAtom 42 = .ok (.ishr, 1) := by decide +kernel
theorem dX4_ofAtom_43 : decode cX4_ofAtom 43 = .ok (.iconst 1, 1) := by decide +kernel
theorem dX4_ofAtom_44 : decode cX4_ofAtom 44 = .ok (.iand, 1) := by decide +kernel
theorem dX4_ofAtom_45 : decode cX4_ofAtom 45 = .ok (.iadd, 1) := by decide +kernel
theorem dX4_ofAtom_46 : decode cX4_ofAtom 46 = .ok (.istore_n 3, 1) := by decide +kernel
theorem dX4_ofAtom_47 : decode cX4_ofAtom 47 = .ok (.iinc 4 1, 3) := by decide +kernel
theorem dX4_ofAtom_50 : decode cX4_ofAtom 50 = .ok (.goto (-26), 3) := by decide +kernel
theorem dX4_ofAtom_53 : decode cX4_ofAtom 53 = .ok (.iload_n 2, 1) := by decide +kernel
theorem dX4_ofAtom_54 : decode cX4_ofAtom 54 = .ok (.ifCond .ne 12, 3) := by decide +kernel
theorem dX4_ofAtom_57 : decode cX4_ofAtom 57 = .ok (.aload_n 0, 1) := by decide +kernel
theorem dX4_ofAtom_58 : decode cX4_ofAtom 58 = .ok (.getfield 47, 3) := by decide +kernel
theorem dX4_ofAtom_61 : decode cX4_ofAtom 61 = .ok (.iload_n 1, 1) := by decide +kernel
theorem dX4_ofAtom_62 : decode cX4_ofAtom 62 = .ok (.iaload, 1) := by decide +kernel
theorem dX4_ofAtom_63 : decode cX4_ofAtom 63 = .ok (.goto 27, 3) := by decide +kernel
theorem dX4_ofAtom_66 : decode cX4_ofAtom 66 = .ok (.iload_n 2, 1) := by decide +kernel
theorem dX4_ofAtom_67 : decode cX4_ofAtom 67 = .ok (.iconst 1, 1) := by decide +kernel
theorem dX4_ofAtom_68 : decode cX4_ofAtom 68 = .ok (.if_icmp .ne 12, 3) := by decide +kernel
theorem dX4_ofAtom_71 : decode cX4_ofAtom 71 = .ok (.aload_n 0, 1) := by decide +kernel
theorem dX4_ofAtom_72 : decode cX4_ofAtom 72 = .ok (.getfield 13, 3) := by decide +kernel
theorem dX4_ofAtom_75 : decode cX4_ofAtom 75 = .ok (.iload_n 1, 1) := by decide +kernel
theorem dX4_ofAtom_76 : decode cX4_ofAtom 76 = .ok (.iaload, 1) := by decide +kernel
theorem dX4_ofAtom_77 : decode cX4_ofAtom 77 = .ok (.goto 13, 3) := by decide +kernel
theorem dX4_ofAtom_80 : decode cX4_ofAtom 80 = .ok (.iload_n 2, 1) := by decide +kernel
theorem dX4_ofAtom_81 : decode cX4_ofAtom 81 = .ok (.iconst 2, 1) := by decide +kernel
theorem dX4_ofAtom_82 : decode cX4_ofAtom 82 = .ok (.if_icmp .ne 7, 3) := by decide +kernel
theorem dX4_ofAtom_85 : decode cX4_ofAtom 85 = .ok (.iload_n 3, 1) := by decide +kernel
theorem dX4_ofAtom_86 : decode cX4_ofAtom 86 = .ok (.goto 4, 3) := by decide +kernel
theorem dX4_ofAtom_89 : decode cX4_ofAtom 89 = .ok (.iconst (-1), 1) := by decide +kernel
theorem dX4_ofAtom_90 : decode cX4_ofAtom 90 = .ok (.ireturn, 1) := by decide +kernel
theorem dX4_leads_0 : decode cX4_leads 0 = .ok (.aload_n 0, 1) := by decide +kernel
theorem dX4_leads_1 : decode cX4_leads 1 = .ok (.getfield 19, 3) := by decide +kernel
theorem dX4_leads_4 : decode cX4_leads 4 = .ok (.bipush 60, 2) := by decide +kernel
theorem dX4_leads_6 : decode cX4_leads 6 = .ok (.iload_n 1, 1) := by decide +kernel
theorem dX4_leads_7 : decode cX4_leads 7 = .ok (.imul, 1) := by decide +kernel
theorem dX4_leads_8 : decode cX4_leads 8 = .ok (.iload_n 2, 1) := by decide +kernel
theorem dX4_leads_9 : decode cX4_leads 9 = .ok (.iadd, 1) := by decide +kernel
theorem dX4_leads_10 : decode cX4_leads 10 = .ok (.iaload, 1) := by decide +kernel
theorem dX4_leads_11 : decode cX4_leads 11 = .ok (.ifCond .gt 17, 3) := by decide +kernel
theorem dX4_leads_14 : decode cX4_leads 14 = .ok (.aload_n 0, 1) := by decide +kernel
theorem dX4_leads_15 : decode cX4_leads 15 = .ok (.getfield 22, 3) := by decide +kernel
theorem dX4_leads_18 : decode cX4_leads 18 = .ok (.bipush 60, 2) := by decide +kernel
theorem dX4_leads_20 : decode cX4_leads 20 = .ok (.iload_n 1, 1) := by decide +kernel
theorem dX4_leads_21 : decode cX4_leads 21 = .ok (.imul, 1) := by decide +kernel
theorem dX4_leads_22 : decode cX4_leads 22 = .ok (.iload_n 2, 1) := by decide +kernel
theorem dX4_leads_23 : decode cX4_leads 23 = .ok (.iadd, 1) := by decide +kernel
theorem dX4_leads_24 : decode cX4_leads 24 = .ok (.iaload, 1) := by decide +kernel
theorem dX4_leads_25 : decode cX4_leads 25 = .ok (.ifCond .le 7, 3) := by decide +kernel
theorem dX4_leads_28 : decode cX4_leads 28 = .ok (.iconst 1, 1) := by decide +kernel
theorem dX4_leads_29 : decode cX4_leads 29 = .ok (.goto 4, 3) := by decide +kernel
theorem dX4_leads_32 : decode cX4_leads 32 = .ok (.iconst 0, 1) := by decide +kernel
theorem dX4_leads_33 : decode cX4_leads 33 = .ok (.ireturn, 1) := by decide +kernel
set_option maxRecDepth 20000 in
theorem ggX4_findDistances_X4_leads : GoodIn wsX4_findDistances wsX4_leads := goodIn_r _ [8, 9, 10, 11, 12, 13, 14, 15, 16, 17, 18, 19, 20, 21, 22, 23, 24, 25, 26, 27, 28, 29, 30, 31] (by decide +kernel) (by decide +kernel)
set_option maxRecDepth 20000 in
theorem gX4_findDistances_X4_leads : GoodIn wsX4_findDistances (wsV RX4 139 RX4 yX4_leads wsX4_leads) := goodIn_app (goodIn_of _ (by decide +kernel)) ggX4_findDistances_X4_leads
theorem dX4_findDistances_0 : decode cX4_findDistances 0 = .ok (.iconst 0, 1) := by decide +kernel
theorem dX4_findDistances_1 : decode cX4_findDistances 1 = .ok (.istore_n 2, 1) := by decide +kernel
theorem dX4_findDistances_2 : decode cX4_findDistances 2 = .ok (.iload_n 2, 1) := by decide +kernel
theorem dX4_findDistances_3 : decode cX4_findDistances 3 = .ok (.aload_n 0, 1) := by decide +kernel
theorem dX4_findDistances_4 : decode cX4_findDistances 4 = .ok (.getfield 63, 3) := by decide +kernel
theorem dX4_findDistances_7 : decode cX4_findDistances 7 = .ok (.if_icmp .ge 34, 3) := by decide +kernel
theorem dX4_findDistances_10 : decode cX4_findDistances 10 = .ok (.aload_n 0, 1) := by decide +kernel
theorem dX4_findDistances_11 : decode cX4_findDistances 11 = .ok (.getfield 50, 3) := by decide +kernel
theorem dX4_findDistances_14 : decode cX4_findDistances 14 = .ok (.iload_n 2, 1) := by decide +kernel
theorem dX4_findDistances_15 : decode cX4_findDistances 15 = .ok (.aload_n 0, 1) := by decide +kernel
theorem dX4_findDistances_16 : decode cX4_findDistances 16 = .ok (.getfield 16, 3) := by decide +kernel
theorem dX4_findDistances_19 : decode cX4_findDistances 19 = .ok (.bipush 32, 2) := by decide +kernel
theorem dX4_findDistances_21 : decode cX4_findDistances 21 = .ok (.iload_n 2, 1) := by decide +kernel
theorem dX4_findDistances_22 : decode cX4_findDistances 22 = .ok (.imul, 1) := by decide +kernel
theorem dX4_findDistances_23 : decode cX4_findDistances 23 = .ok (.iload_n 1, 1) := by decide +kernel
theorem dX4_findDistances_24 : decode cX4_findDistances 24 = .ok (.iadd, 1) := by decide +kernel
theorem dX4_findDistances_25 : decode cX4_findDistances 25 = .ok (.iaload, 1) := by decide +kernel
theorem dX4_findDistances_26 : decode cX4_findDistances 26 = .ok (.ifCond .le 7, 3) := by decide +kernel
theorem dX4_findDistances_29 : decode cX4_findDistances 29 = .ok (.iconst 1, 1) := by decide +kernel
theorem dX4_findDistances_30 : decode cX4_findDistances 30 = .ok (.goto 4, 3) := by decide +kernel
theorem dX4_findDistances_33 : decode cX4_findDistances 33 = .ok (.iconst 0, 1) := by decide +kernel
theorem dX4_findDistances_34 : decode cX4_findDistances 34 = .ok (.iastore, 1) := by decide +kernel
theorem dX4_findDistances_35 : decode cX4_findDistances 35 = .ok (.iinc 2 1, 3) := by decide +kernel
theorem dX4_findDistances_38 : decode cX4_findDistances 38 = .ok (.goto (-36), 3) := by decide +kernel
theorem dX4_findDistances_41 : decode cX4_findDistances 41 = .ok (.iconst 2, 1) := by decide +kernel
theorem dX4_findDistances_42 : decode cX4_findDistances 42 = .ok (.istore_n 2, 1) := by decide +kernel
theorem dX4_findDistances_43 : decode cX4_findDistances 43 = .ok (.iload_n 2, 1) := by decide +kernel
theorem dX4_findDistances_44 : decode cX4_findDistances 44 = .ok (.aload_n 0, 1) := by decide +kernel
theorem dX4_findDistances_45 : decode cX4_findDistances 45 = .ok (.getfield 63, 3) := by decide +kernel
theorem dX4_findDistances_48 : decode cX4_findDistances 48 = .ok (.if_icmp .gt 86, 3) := by decide +kernel
theorem dX4_findDistances_51 : decode cX4_findDistances 51 = .ok (.iconst 0, 1) := by decide +kernel
theorem dX4_findDistances_52 : decode cX4_findDistances 52 = .ok (.istore_n 3, 1) := by decide +kernel
theorem dX4_findDistances_53 : decode cX4_findDistances 53 = .ok (.iload_n 3, 1) := by decide +kernel
theorem dX4_findDistances_54 : decode cX4_findDistances 54 = .ok (.aload_n 0, 1) := by decide +kernel
theorem dX4_findDistances_55 : decode cX4_findDistances 55 = .ok (.getfield 63, 3) := by decide +kernel
theorem dX4_findDistances_58 : decode cX4_findDistances 58 = .ok (.if_icmp .ge 70, 3) := by decide +kernel
theorem dX4_findDistances_61 : decode cX4_findDistances 61 = .ok (.iconst 0, 1) := by decide +kernel
theorem dX4_findDistances_62 : decode cX4_findDistances 62 = .ok (.istore 4, 2) := by decide +kernel
theorem dX4_findDistances_64 : decode cX4_findDistances 64 = .ok (.iload 4, 2) := by decide +kernel
theorem dX4_findDistances_66 : decode cX4_findDistances 66 = .ok (.aload_n 0, 1) := by decide +kernel
theorem dX4_findDistances_67 : decode cX4_findDistances 67 = .ok (.getfield 63, 3) := by decide +kernel
theorem dX4_findDistances_70 : decode cX4_findDistances 70 = .ok (.if_icmp .ge 52, 3) := by decide +kernel
theorem dX4_findDistances_73 : decode cX4_findDistances 73 = .ok (.aload_n 0, 1) := by decide +kernel
theorem dX4_findDistances_74 : decode cX4_findDistances 74 = .ok (.getfield 50, 3) := by decide +kernel
theorem dX4_findDistances_77 : decode cX4_findDistances 77 = .ok (.iload_n 3, 1) := by decide +kernel
theorem dX4_findDistances_78 : decode cX4_findDistances 78 = .ok (.iaload, 1) := by decide +kernel
theorem dX4_findDistances_79 : decode cX4_findDistances 79 = .ok (.ifCond .ne 43, 3) := by decide +kernel
theorem dX4_findDistances_82 : decode cX4_findDistances 82 = .ok (.aload_n 0, 1) := by decide +kernel
theorem dX4_findDistances_83 : decode cX4_findDistances 83 = .ok (.getfield 50, 3) := by decide +kernel
theorem dX4_findDistances_86 : decode cX4_findDistances 86 = .ok (.iload_n 3, 1) := by decide +kernel
