theorem dX0_init_0 : decode cX0_init 0 = .ok (.aload_n 0, 1) := by decide +kernel
theorem dX0_init_1 : decode cX0_init 1 = .ok (.invokespecial 3, 3) := by decide +kernel
theorem dX0_init_4 : decode cX0_init 4 = .ok (.aload_n 0, 1) := by decide +kernel
theorem dX0_init_5 : decode cX0_init 5 = .ok (.bipush 60, 2) := by decide +kernel
theorem dX0_init_7 : decode cX0_init 7 = .ok (.newarray .int, 2) := by decide +kernel
theorem dX0_init_9 : decode cX0_init 9 = .ok (.putfield 9, 3) := by decide +kernel
theorem dX0_init_12 : decode cX0_init 12 = .ok (.aload_n 0, 1) := by decide +kernel
theorem dX0_init_13 : decode cX0_init 13 = .ok (.bipush 32, 2) := by decide +kernel
theorem dX0_init_15 : decode cX0_init 15 = .ok (.newarray .int, 2) := by decide +kernel
theorem dX0_init_17 : decode cX0_init 17 = .ok (.putfield 15, 3) := by decide +kernel
theorem dX0_init_20 : decode cX0_init 20 = .ok (.return_, 1) := by decide +kernel
set_option maxRecDepth 20000 in
theorem ggX0_copyAbove_X1_variablesUpTo : GoodIn wsX0_copyAbove wsX1_variablesUpTo := goodIn_r _ [9, 10, 11, 12, 115, 116, 117, 118, 119, 120, 121, 122, 123, 124] (by decide +kernel) (by decide +kernel)
set_option maxRecDepth 20000 in
theorem gX0_copyAbove_X1_variablesUpTo : GoodIn wsX0_copyAbove (wsV RX0 27 RX1 yX1_variablesUpTo wsX1_variablesUpTo) := goodIn_app (goodIn_of _ (by decide +kernel)) ggX0_copyAbove_X1_variablesUpTo
set_option maxRecDepth 20000 in
theorem ggX0_copyAbove_X1_nodesAmong : GoodIn wsX0_copyAbove wsX1_nodesAmong := goodIn_r _ [16, 10, 17, 18, 19, 20, 21, 22, 115, 116, 117, 118, 119, 120, 121, 122, 123, 124] (by decide +kernel) (by decide +kernel)
set_option maxRecDepth 20000 in
theorem gX0_copyAbove_X1_nodesAmong : GoodIn wsX0_copyAbove (wsV RX0 33 RX1 yX1_nodesAmong wsX1_nodesAmong) := goodIn_app (goodIn_of _ (by decide +kernel)) ggX0_copyAbove_X1_nodesAmong
set_option maxRecDepth 20000 in
theorem ggX0_copyAbove_X3_contains : GoodIn wsX0_copyAbove wsX3_contains := goodIn_r _ [20] (by decide +kernel) (by decide +kernel)
set_option maxRecDepth 20000 in
theorem gX0_copyAbove_X3_contains_n37 : GoodIn wsX0_copyAbove (wsX3_contains) := ggX0_copyAbove_X3_contains
set_option maxRecDepth 20000 in
theorem ggX0_copyAbove_X1_hadByNodes : GoodIn wsX0_copyAbove wsX1_hadByNodes := goodIn_r _ [26, 10, 17, 27, 18, 19, 20, 115, 116, 117, 118, 119, 120, 121, 122, 123, 124] (by decide +kernel) (by decide +kernel)
set_option maxRecDepth 20000 in
theorem gX0_copyAbove_X1_hadByNodes : GoodIn wsX0_copyAbove (wsV RX0 41 RX1 yX1_hadByNodes wsX1_hadByNodes) := goodIn_app (goodIn_of _ (by decide +kernel)) ggX0_copyAbove_X1_hadByNodes
set_option maxRecDepth 20000 in
theorem ggX0_copyAbove_X1_atomsUpTo : GoodIn wsX0_copyAbove wsX1_atomsUpTo := goodIn_r _ [31, 10, 11, 32, 33, 34, 115, 116, 117, 118, 119, 120, 121, 122, 123, 124] (by decide +kernel) (by decide +kernel)
set_option maxRecDepth 20000 in
theorem gX0_copyAbove_X1_atomsUpTo : GoodIn wsX0_copyAbove (wsV RX0 45 RX1 yX1_atomsUpTo wsX1_atomsUpTo) := goodIn_app (goodIn_of _ (by decide +kernel)) ggX0_copyAbove_X1_atomsUpTo
set_option maxRecDepth 20000 in
theorem ggX0_copyAbove_J13_bitCount_95d88 : GoodIn wsX0_copyAbove wsJ13_bitCount_95d88 := goodIn_r _ [38, 39, 40, 41] (by decide +kernel) (by decide +kernel)
set_option maxRecDepth 20000 in
theorem gX0_copyAbove_J13_bitCount_95d88 : GoodIn wsX0_copyAbove (va_wsS RX0 49 yJ13_bitCount_95d88 wsJ13_bitCount_95d88) := goodIn_app (goodIn_of _ (by decide +kernel)) ggX0_copyAbove_J13_bitCount_95d88
set_option maxRecDepth 20000 in
theorem ggX0_copyAbove_J6_bitCount_0f7a4 : GoodIn wsX0_copyAbove wsJ6_bitCount_0f7a4 := goodIn_r _ [45, 46, 47, 48] (by decide +kernel) (by decide +kernel)
set_option maxRecDepth 20000 in
theorem gX0_copyAbove_J6_bitCount_0f7a4 : GoodIn wsX0_copyAbove (va_wsS RX0 54 yJ6_bitCount_0f7a4 wsJ6_bitCount_0f7a4) := goodIn_app (goodIn_of _ (by decide +kernel)) ggX0_copyAbove_J6_bitCount_0f7a4
set_option maxRecDepth 20000 in
theorem ggX0_copyAbove_X1_hasRoomFor : GoodIn wsX0_copyAbove wsX1_hasRoomFor := goodIn_r _ [52, 10, 33, 115, 116, 117, 118, 119, 120, 121, 122, 123, 124] (by decide +kernel) (by decide +kernel)
set_option maxRecDepth 20000 in
theorem gX0_copyAbove_X1_hasRoomFor : GoodIn wsX0_copyAbove (wsV RX0 58 RX1 yX1_hasRoomFor wsX1_hasRoomFor) := goodIn_app (goodIn_of _ (by decide +kernel)) ggX0_copyAbove_X1_hasRoomFor
set_option maxRecDepth 20000 in
theorem ggX0_copyAbove_X0_makeVariables : GoodIn wsX0_copyAbove wsX0_makeVariables := goodIn_r _ [57, 58, 4, 18, 19, 20, 59, 60, 61, 8, 62, 11, 10, 12, 63, 64, 65, 66, 67, 68, 69, 70, 27, 71, 72, 17, 32, 21, 22, 115, 116, 117, 118, 119, 120, 121, 122, 123, 124, 125, 126] (by decide +kernel) (by decide +kernel)
set_option maxRecDepth 20000 in
theorem gX0_copyAbove_X0_makeVariables : GoodIn wsX0_copyAbove (wsV RX0 62 RX0 yX0_makeVariables wsX0_makeVariables) := goodIn_app (goodIn_of _ (by decide +kernel)) ggX0_copyAbove_X0_makeVariables
set_option maxRecDepth 20000 in
theorem ggX0_copyAbove_X0_makeAtoms : GoodIn wsX0_copyAbove wsX0_makeAtoms := goodIn_r _ [76, 77, 78, 79, 19, 80, 81, 82, 83, 8, 84, 34, 10, 32, 11, 63, 64, 65, 66, 85, 86, 87, 88, 33, 115, 116, 117, 118, 119, 120, 121, 122, 123, 124, 125, 126] (by decide +kernel) (by decide +kernel)
set_option maxRecDepth 20000 in
theorem gX0_copyAbove_X0_makeAtoms : GoodIn wsX0_copyAbove (wsV RX0 66 RX0 yX0_makeAtoms wsX0_makeAtoms) := goodIn_app (goodIn_of _ (by decide +kernel)) ggX0_copyAbove_X0_makeAtoms
set_option maxRecDepth 20000 in
theorem ggX0_copyAbove_X0_tellOfCopy : GoodIn wsX0_copyAbove wsX0_tellOfCopy := goodIn_r _ [92, 4, 78, 21, 19, 22, 23, 24, 25, 8, 26, 10, 17, 27, 18, 20, 79, 80, 93, 94, 95, 96, 97, 98, 99, 100, 12, 32, 101, 43, 44, 45, 46, 47, 48, 102, 103, 104, 105, 71, 106, 14, 15, 16, 107, 108, 109, 110, 111, 112, 113, 114, 125, 126, 115, 116, 117, 118, 119, 120, 121, 122, 123, 124] (by decide +kernel) (by decide +kernel)
set_option maxRecDepth 20000 in
theorem gX0_copyAbove_X0_tellOfCopy : GoodIn wsX0_copyAbove (wsV RX0 70 RX0 yX0_tellOfCopy wsX0_tellOfCopy) := goodIn_app (goodIn_of _ (by decide +kernel)) ggX0_copyAbove_X0_tellOfCopy
theorem dX0_copyAbove_0 : decode cX0_copyAbove 0 = .ok (.aload_n 1, 1) := by decide +kernel
theorem dX0_copyAbove_1 : decode cX0_copyAbove 1 = .ok (.getfield 18, 3) := by decide +kernel
theorem dX0_copyAbove_4 : decode cX0_copyAbove 4 = .ok (.iload_n 2, 1) := by decide +kernel
theorem dX0_copyAbove_5 : decode cX0_copyAbove 5 = .ok (.iaload, 1) := by decide +kernel
theorem dX0_copyAbove_6 : decode cX0_copyAbove 6 = .ok (.istore 4, 2) := by decide +kernel
theorem dX0_copyAbove_8 : decode cX0_copyAbove 8 = .ok (.aload_n 1, 1) := by decide +kernel
theorem dX0_copyAbove_9 : decode cX0_copyAbove 9 = .ok (.aload_n 1, 1) := by decide +kernel
theorem dX0_copyAbove_10 : decode cX0_copyAbove 10 = .ok (.getfield 23, 3) := by decide +kernel
theorem dX0_copyAbove_13 : decode cX0_copyAbove 13 = .ok (.iload_n 2, 1) := by decide +kernel
theorem dX0_copyAbove_14 : decode cX0_copyAbove 14 = .ok (.laload, 1) := by decide +kernel
theorem dX0_copyAbove_15 : decode cX0_copyAbove 15 = .ok (.aload_n 1, 1) := by decide +kernel
theorem dX0_copyAbove_16 : decode cX0_copyAbove 16 = .ok (.iload_n 3, 1) := by decide +kernel
theorem dX0_copyAbove_17 : decode cX0_copyAbove 17 = .ok (.invokevirtual 27, 3) := by decide +kernel
theorem dX0_copyAbove_20 : decode cX0_copyAbove 20 = .ok (.ldc2_w 31, 3) := by decide +kernel
theorem dX0_copyAbove_23 : decode cX0_copyAbove 23 = .ok (.lxor, 1) := by decide +kernel
theorem dX0_copyAbove_24 : decode cX0_copyAbove 24 = .ok (.land, 1) := by decide +kernel
theorem dX0_copyAbove_25 : decode cX0_copyAbove 25 = .ok (.invokevirtual 33, 3) := by decide +kernel
theorem dX0_copyAbove_28 : decode cX0_copyAbove 28 = .ok (.lstore 5, 2) := by decide +kernel
theorem dX0_copyAbove_30 : decode cX0_copyAbove 30 = .ok (.lload 5, 2) := by decide +kernel
theorem dX0_copyAbove_32 : decode cX0_copyAbove 32 = .ok (.iload 4, 2) := by decide +kernel
theorem dX0_copyAbove_34 : decode cX0_copyAbove 34 = .ok (.invokestatic 37, 3) := by decide +kernel
theorem dX0_copyAbove_37 : decode cX0_copyAbove 37 = .ok (.ifCond .ne 6, 3) := by decide +kernel
theorem dX0_copyAbove_40 : decode cX0_copyAbove 40 = .ok (.iload 4, 2) := by decide +kernel
theorem dX0_copyAbove_42 : decode cX0_copyAbove 42 = .ok (.ireturn, 1) := by decide +kernel
theorem dX0_copyAbove_43 : decode cX0_copyAbove 43 = .ok (.aload_n 1, 1) := by decide +kernel
theorem dX0_copyAbove_44 : decode cX0_copyAbove 44 = .ok (.lload 5, 2) := by decide +kernel
theorem dX0_copyAbove_46 : decode cX0_copyAbove 46 = .ok (.invokevirtual 41, 3) := by decide +kernel
theorem dX0_copyAbove_49 : decode cX0_copyAbove 49 = .ok (.aload_n 1, 1) := by decide +kernel
theorem dX0_copyAbove_50 : decode cX0_copyAbove 50 = .ok (.iload_n 3, 1) := by decide +kernel
theorem dX0_copyAbove_51 : decode cX0_copyAbove 51 = .ok (.invokevirtual 45, 3) := by decide +kernel
theorem dX0_copyAbove_54 : decode cX0_copyAbove 54 = .ok (.iconst (-1), 1) := by decide +kernel
theorem dX0_copyAbove_55 : decode cX0_copyAbove 55 = .ok (.ixor, 1) := by decide +kernel
theorem dX0_copyAbove_56 : decode cX0_copyAbove 56 = .ok (.iand, 1) := by decide +kernel
theorem dX0_copyAbove_57 : decode cX0_copyAbove 57 = .ok (.istore 7, 2) := by decide +kernel
theorem dX0_copyAbove_59 : decode cX0_copyAbove 59 = .ok (.aload_n 1, 1) := by decide +kernel
theorem dX0_copyAbove_60 : decode cX0_copyAbove 60 = .ok (.lload 5, 2) := by decide +kernel
theorem dX0_copyAbove_62 : decode cX0_copyAbove 62 = .ok (.invokestatic 49, 3) := by decide +kernel
theorem dX0_copyAbove_65 : decode cX0_copyAbove 65 = .ok (.iload 7, 2) := by decide +kernel
theorem dX0_copyAbove_67 : decode cX0_copyAbove 67 = .ok (.invokestatic 54, 3) := by decide +kernel
theorem dX0_copyAbove_70 : decode cX0_copyAbove 70 = .ok (.invokevirtual 58, 3) := by decide +kernel
theorem dX0_copyAbove_73 : decode cX0_copyAbove 73 = .ok (.ifCond .ne 5, 3) := by decide +kernel
theorem dX0_copyAbove_76 : decode cX0_copyAbove 76 = .ok (.iconst (-1), 1) := by decide +kernel
theorem dX0_copyAbove_77 : decode cX0_copyAbove 77 = .ok (.ireturn, 1) := by decide +kernel
theorem dX0_copyAbove_78 : decode cX0_copyAbove 78 = .ok (.aload_n 0, 1) := by decide +kernel
theorem dX0_copyAbove_79 : decode cX0_copyAbove 79 = .ok (.aload_n 1, 1) := by decide +kernel
theorem dX0_copyAbove_80 : decode cX0_copyAbove 80 = .ok (.lload 5, 2) := by decide +kernel
theorem dX0_copyAbove_82 : decode cX0_copyAbove 82 = .ok (.invokevirtual 62, 3) := by decide +kernel
theorem dX0_copyAbove_85 : decode cX0_copyAbove 85 = .ok (.aload_n 0, 1) := by decide +kernel
theorem dX0_copyAbove_86 : decode cX0_copyAbove 86 = .ok (.aload_n 1, 1) := by decide +kernel
theorem dX0_copyAbove_87 : decode cX0_copyAbove 87 = .ok (.iload 7, 2) := by decide +kernel
theorem dX0_copyAbove_89 : decode cX0_copyAbove 89 = .ok (.invokevirtual 66, 3) := by decide +kernel
theorem dX0_copyAbove_92 : decode cX0_copyAbove 92 = .ok (.iconst 0, 1) := by decide +kernel
theorem dX0_copyAbove_93 : decode cX0_copyAbove 93 = .ok (.istore 8, 2) := by decide +kernel
theorem dX0_copyAbove_95 : decode cX0_copyAbove 95 = .ok (.iload 8, 2) := by decide +kernel
theorem dX0_copyAbove_97 : decode cX0_copyAbove 97 = .ok (.bipush 60, 2) := by decide +kernel
theorem dX0_copyAbove_99 : decode cX0_copyAbove 99 = .ok (.if_icmp .ge 26, 3) := by decide +kernel
theorem dX0_copyAbove_102 : decode cX0_copyAbove 102 = .ok (.lload 5, 2) := by decide +kernel
theorem dX0_copyAbove_104 : decode cX0_copyAbove 104 = .ok (.iload 8, 2) := by decide +kernel
theorem dX0_copyAbove_106 : decode cX0_copyAbove 106 = .ok (.invokestatic 37, 3) := by decide +kernel
theorem dX0_copyAbove_109 : decode cX0_copyAbove 109 = .ok (.ifCond .eq 10, 3) := by decide +kernel
theorem dX0_copyAbove_112 : decode cX0_copyAbove 112 = .ok (.aload_n 0, 1) := by decide +kernel
theorem dX0_copyAbove_113 : decode cX0_copyAbove 113 = .ok (.aload_n 1, 1) := by decide +kernel
theorem dX0_copyAbove_114 : decode cX0_copyAbove 114 = .ok (.iload 8, 2) := by decide +kernel
theorem dX0_copyAbove_116 : decode cX0_copyAbove 116 = .ok (.invokevirtual 70, 3) := by decide +kernel
theorem dX0_copyAbove_119 : decode cX0_copyAbove 119 = .ok (.iinc 8 1, 3) := by decide +kernel
theorem dX0_copyAbove_122 : decode cX0_copyAbove 122 = .ok (.goto (-27), 3) := by decide +kernel
theorem dX0_copyAbove_125 : decode cX0_copyAbove 125 = .ok (.aload_n 0, 1) := by decide +kernel
theorem dX0_copyAbove_126 : decode cX0_copyAbove 126 = .ok (.getfield 9, 3) := by decide +kernel
theorem dX0_copyAbove_129 : decode cX0_copyAbove 129 = .ok (.iload 4, 2) := by decide +kernel
theorem dX0_copyAbove_131 : decode cX0_copyAbove 131 = .ok (.iaload, 1) := by decide +kernel
theorem dX0_copyAbove_132 : decode cX0_copyAbove 132 = .ok (.ireturn, 1) := by decide +kernel
set_option maxRecDepth 20000 in
theorem ggX0_makeVariables_X3_contains : GoodIn wsX0_makeVariables wsX3_contains := goodIn_r _ [5] (by decide +kernel) (by decide +kernel)
set_option maxRecDepth 20000 in
theorem gX0_makeVariables_X3_contains_n37 : GoodIn wsX0_makeVariables (wsX3_contains) := ggX0_makeVariables_X3_contains
set_option maxRecDepth 20000 in
theorem ggX0_makeVariables_X1_levelOf : GoodIn wsX0_makeVariables wsX1_levelOf := goodIn_r _ [10, 11, 12, 13, 14, 15, 16, 17, 3, 4, 5, 29, 30, 31, 32, 33, 34, 35, 36, 37, 38] (by decide +kernel) (by decide +kernel)
set_option maxRecDepth 20000 in
theorem gX0_makeVariables_X1_levelOf : GoodIn wsX0_makeVariables (wsV RX0 77 RX1 yX1_levelOf wsX1_levelOf) := goodIn_app (goodIn_of _ (by decide +kernel)) ggX0_makeVariables_X1_levelOf
set_option maxRecDepth 20000 in
theorem ggX0_makeVariables_X1_addVariable : GoodIn wsX0_makeVariables wsX1_addVariable := goodIn_r _ [21, 12, 11, 22, 23, 24, 25, 13, 26, 27, 4, 28, 29, 30, 31, 32, 33, 34, 35, 36, 37, 38] (by decide +kernel) (by decide +kernel)
set_option maxRecDepth 20000 in
theorem gX0_makeVariables_X1_addVariable : GoodIn wsX0_makeVariables (wsV RX0 80 RX1 yX1_addVariable wsX1_addVariable) := goodIn_app (goodIn_of _ (by decide +kernel)) ggX0_makeVariables_X1_addVariable
theorem dX0_makeVariables_0 : decode cX0_makeVariables 0 = .ok (.aload_n 1, 1) := by decide +kernel
theorem dX0_makeVariables_1 : decode cX0_makeVariables 1 = .ok (.getfield 73, 3) := by decide +kernel
theorem dX0_makeVariables_4 : decode cX0_makeVariables 4 = .ok (.istore 4, 2) := by decide +kernel
theorem dX0_makeVariables_6 : decode cX0_makeVariables 6 = .ok (.iconst 0, 1) := by decide +kernel
theorem dX0_makeVariables_7 : decode cX0_makeVariables 7 = .ok (.istore 5, 2) := by decide +kernel
theorem dX0_makeVariables_9 : decode cX0_makeVariables 9 = .ok (.iload 5, 2) := by decide +kernel
theorem dX0_makeVariables_11 : decode cX0_makeVariables 11 = .ok (.iload 4, 2) := by decide +kernel
theorem dX0_makeVariables_13 : decode cX0_makeVariables 13 = .ok (.if_icmp .ge 40, 3) := by decide +kernel
theorem dX0_makeVariables_16 : decode cX0_makeVariables 16 = .ok (.aload_n 0, 1) := by decide +kernel
theorem dX0_makeVariables_17 : decode cX0_makeVariables 17 = .ok (.getfield 9, 3) := by decide +kernel
theorem dX0_makeVariables_20 : decode cX0_makeVariables 20 = .ok (.iload 5, 2) := by decide +kernel
theorem dX0_makeVariables_22 : decode cX0_makeVariables 22 = .ok (.lload_n 2, 1) := by decide +kernel
theorem dX0_makeVariables_23 : decode cX0_makeVariables 23 = .ok (.iload 5, 2) := by decide +kernel
theorem dX0_makeVariables_25 : decode cX0_makeVariables 25 = .ok (.invokestatic 37, 3) := by decide +kernel
theorem dX0_makeVariables_28 : decode cX0_makeVariables 28 = .ok (.ifCond .eq 16, 3) := by decide +kernel
theorem dX0_makeVariables_31 : decode cX0_makeVariables 31 = .ok (.aload_n 1, 1) := by decide +kernel
theorem dX0_makeVariables_32 : decode cX0_makeVariables 32 = .ok (.aload_n 1, 1) := by decide +kernel
theorem dX0_makeVariables_33 : decode cX0_makeVariables 33 = .ok (.iload 5, 2) := by decide +kernel
theorem dX0_makeVariables_35 : decode cX0_makeVariables 35 = .ok (.invokevirtual 77, 3) := by decide +kernel
theorem dX0_makeVariables_38 : decode cX0_makeVariables 38 = .ok (.invokevirtual 80, 3) := by decide +kernel
theorem dX0_makeVariables_41 : decode cX0_makeVariables 41 = .ok (.goto 5, 3) := by decide +kernel
theorem dX0_makeVariables_44 : decode cX0_makeVariables 44 = .ok (.iload 5, 2) := by decide +kernel
theorem dX0_makeVariables_46 : decode cX0_makeVariables 46 = .ok (.iastore, 1) := by decide +kernel
theorem dX0_makeVariables_47 : decode cX0_makeVariables 47 = .ok (.iinc 5 1, 3) := by decide +kernel
theorem dX0_makeVariables_50 : decode cX0_makeVariables 50 = .ok (.goto (-41), 3) := by decide +kernel
theorem dX0_makeVariables_53 : decode cX0_makeVariables 53 = .ok (.return_, 1) := by decide +kernel
set_option maxRecDepth 20000 in
theorem ggX0_makeAtoms_X3_containsAtom : GoodIn wsX0_makeAtoms wsX3_containsAtom := goodIn_r _ [5] (by decide +kernel) (by decide +kernel)
set_option maxRecDepth 20000 in
theorem gX0_makeAtoms_X3_containsAtom_n86 : GoodIn wsX0_makeAtoms (wsX3_containsAtom) := ggX0_makeAtoms_X3_containsAtom
set_option maxRecDepth 20000 in
theorem ggX0_makeAtoms_X1_levelOfAtom : GoodIn wsX0_makeAtoms wsX1_levelOfAtom := goodIn_r _ [10, 11, 12, 13, 14, 15, 16, 17, 18, 3, 4, 5, 24, 25, 26, 27, 28, 29, 30, 31, 32, 33] (by decide +kernel) (by decide +kernel)
set_option maxRecDepth 20000 in
theorem gX0_makeAtoms_X1_levelOfAtom : GoodIn wsX0_makeAtoms (wsV RX0 89 RX1 yX1_levelOfAtom wsX1_levelOfAtom) := goodIn_app (goodIn_of _ (by decide +kernel)) ggX0_makeAtoms_X1_levelOfAtom
set_option maxRecDepth 20000 in
theorem ggX0_makeAtoms_X1_addAtom : GoodIn wsX0_makeAtoms wsX1_addAtom := goodIn_r _ [22, 23, 11, 24, 25, 26, 27, 28, 29, 30, 31, 32, 33] (by decide +kernel) (by decide +kernel)
set_option maxRecDepth 20000 in
theorem gX0_makeAtoms_X1_addAtom : GoodIn wsX0_makeAtoms (wsV RX0 92 RX1 yX1_addAtom wsX1_addAtom) := goodIn_app (goodIn_of _ (by decide +kernel)) ggX0_makeAtoms_X1_addAtom
theorem dX0_makeAtoms_0 : decode cX0_makeAtoms 0 = .ok (.aload_n 1, 1) := by decide +kernel
theorem dX0_makeAtoms_1 : decode cX0_makeAtoms 1 = .ok (.getfield 83, 3) := by decide +kernel
theorem dX0_makeAtoms_4 : decode cX0_makeAtoms 4 = .ok (.istore_n 3, 1) := by decide +kernel
theorem dX0_makeAtoms_5 : decode cX0_makeAtoms 5 = .ok (.iconst 0, 1) := by decide +kernel
theorem dX0_makeAtoms_6 : decode cX0_makeAtoms 6 = .ok (.istore 4, 2) := by decide +kernel
theorem dX0_makeAtoms_8 : decode cX0_makeAtoms 8 = .ok (.iload 4, 2) := by decide +kernel
theorem dX0_makeAtoms_10 : decode cX0_makeAtoms 10 = .ok (.iload_n 3, 1) := by decide +kernel
theorem dX0_makeAtoms_11 : decode cX0_makeAtoms 11 = .ok (.if_icmp .ge 40, 3) := by decide +kernel
theorem dX0_makeAtoms_14 : decode cX0_makeAtoms 14 = .ok (.aload_n 0, 1) := by decide +kernel
theorem dX0_makeAtoms_15 : decode cX0_makeAtoms 15 = .ok (.getfield 15, 3) := by decide +kernel
theorem dX0_makeAtoms_18 : decode cX0_makeAtoms 18 = .ok (.iload 4, 2) := by decide +kernel
theorem dX0_makeAtoms_20 : decode cX0_makeAtoms 20 = .ok (.iload_n 2, 1) := by decide +kernel
theorem dX0_makeAtoms_21 : decode cX0_makeAtoms 21 = .ok (.iload 4, 2) := by decide +kernel
theorem dX0_makeAtoms_23 : decode cX0_makeAtoms 23 = .ok (.invokestatic 86, 3) := by decide +kernel
theorem dX0_makeAtoms_26 : decode cX0_makeAtoms 26 = .ok (.ifCond .eq 16, 3) := by decide +kernel
theorem dX0_makeAtoms_29 : decode cX0_makeAtoms 29 = .ok (.aload_n 1, 1) := by decide +kernel
theorem dX0_makeAtoms_30 : decode cX0_makeAtoms 30 = .ok (.aload_n 1, 1) := by decide +kernel
theorem dX0_makeAtoms_31 : decode cX0_makeAtoms 31 = .ok (.iload 4, 2) := by decide +kernel
theorem dX0_makeAtoms_33 : decode cX0_makeAtoms 33 = .ok (.invokevirtual 89, 3) := by decide +kernel
theorem dX0_makeAtoms_36 : decode cX0_makeAtoms 36 = .ok (.invokevirtual 92, 3) := by decide +kernel
theorem dX0_makeAtoms_39 : decode cX0_makeAtoms 39 = .ok (.goto 5, 3) := by decide +kernel
theorem dX0_makeAtoms_42 : decode cX0_makeAtoms 42 = .ok (.iload 4, 2) := by decide +kernel
theorem dX0_makeAtoms_44 : decode cX0_makeAtoms 44 = .ok (.iastore, 1) := by decide +kernel
theorem dX0_makeAtoms_45 : decode cX0_makeAtoms 45 = .ok (.iinc 4 1, 3) := by decide +kernel
theorem dX0_makeAtoms_48 : decode cX0_makeAtoms 48 = .ok (.goto (-40), 3) := by decide +kernel
theorem dX0_makeAtoms_51 : decode cX0_makeAtoms 51 = .ok (.return_, 1) := by decide +kernel
set_option maxRecDepth 20000 in
theorem ggX0_tellOfCopy_X3_bit : GoodIn wsX0_tellOfCopy wsX3_bit := goodIn_r _ [5] (by decide +kernel) (by decide +kernel)
set_option maxRecDepth 20000 in
theorem gX0_tellOfCopy_X3_bit_n95 : GoodIn wsX0_tellOfCopy (wsX3_bit) := ggX0_tellOfCopy_X3_bit
set_option maxRecDepth 20000 in
theorem ggX0_tellOfCopy_X1_hadByNodes : GoodIn wsX0_tellOfCopy wsX1_hadByNodes := goodIn_r _ [10, 11, 12, 13, 14, 4, 15, 54, 55, 56, 57, 58, 59, 60, 61, 62, 63] (by decide +kernel) (by decide +kernel)
set_option maxRecDepth 20000 in
theorem gX0_tellOfCopy_X1_hadByNodes : GoodIn wsX0_tellOfCopy (wsV RX0 41 RX1 yX1_hadByNodes wsX1_hadByNodes) := goodIn_app (goodIn_of _ (by decide +kernel)) ggX0_tellOfCopy_X1_hadByNodes
set_option maxRecDepth 20000 in
theorem ggX0_tellOfCopy_X3_containsAtom : GoodIn wsX0_tellOfCopy wsX3_containsAtom := goodIn_r _ [17] (by decide +kernel) (by decide +kernel)
set_option maxRecDepth 20000 in
theorem gX0_tellOfCopy_X3_containsAtom_n86 : GoodIn wsX0_tellOfCopy (wsX3_containsAtom) := ggX0_tellOfCopy_X3_containsAtom
set_option maxRecDepth 20000 in
theorem ggX0_tellOfCopy_X1_tellHas : GoodIn wsX0_tellOfCopy wsX1_tellHas := goodIn_r _ [21, 13, 22, 23, 24, 9, 25, 11, 26, 27, 14, 4, 15, 28, 29, 30, 31, 32, 33, 34, 54, 55, 56, 57, 58, 59, 60, 61, 62, 63] (by decide +kernel) (by decide +kernel)
set_option maxRecDepth 20000 in
theorem gX0_tellOfCopy_X1_tellHas : GoodIn wsX0_tellOfCopy (wsV RX0 98 RX1 yX1_tellHas wsX1_tellHas) := goodIn_app (goodIn_of _ (by decide +kernel)) ggX0_tellOfCopy_X1_tellHas
set_option maxRecDepth 20000 in
theorem ggX0_tellOfCopy_X1_nodesIncludedByNode : GoodIn wsX0_tellOfCopy wsX1_nodesIncludedByNode := goodIn_r _ [38, 11, 12, 39, 40, 41, 42, 9, 43, 14, 4, 15, 3, 5, 54, 55, 56, 57, 58, 59, 60, 61, 62, 63] (by decide +kernel) (by decide +kernel)
set_option maxRecDepth 20000 in
theorem gX0_tellOfCopy_X1_nodesIncludedByNode : GoodIn wsX0_tellOfCopy (wsV RX0 102 RX1 yX1_nodesIncludedByNode wsX1_nodesIncludedByNode) := goodIn_app (goodIn_of _ (by decide +kernel)) ggX0_tellOfCopy_X1_nodesIncludedByNode
set_option maxRecDepth 20000 in
theorem ggX0_tellOfCopy_X3_contains : GoodIn wsX0_tellOfCopy wsX3_contains := goodIn_r _ [15] (by decide +kernel) (by decide +kernel)
set_option maxRecDepth 20000 in
theorem gX0_tellOfCopy_X3_contains_n37 : GoodIn wsX0_tellOfCopy (wsX3_contains) := ggX0_tellOfCopy_X3_contains
set_option maxRecDepth 20000 in
theorem ggX0_tellOfCopy_X1_tellIncludes : GoodIn wsX0_tellOfCopy wsX1_tellIncludes := goodIn_r _ [47, 39, 3, 4, 5, 48, 49, 50, 9, 51, 26, 27, 14, 15, 22, 23, 24, 25, 11, 28, 29, 30, 31, 32, 33, 34, 54, 55, 56, 57, 58, 59, 60, 61, 62, 63] (by decide +kernel) (by decide +kernel)
set_option maxRecDepth 20000 in
theorem gX0_tellOfCopy_X1_tellIncludes : GoodIn wsX0_tellOfCopy (wsV RX0 105 RX1 yX1_tellIncludes wsX1_tellIncludes) := goodIn_app (goodIn_of _ (by decide +kernel)) ggX0_tellOfCopy_X1_tellIncludes
theorem dX0_tellOfCopy_0 : decode cX0_tellOfCopy 0 = .ok (.aload_n 1, 1) := by decide +kernel
theorem dX0_tellOfCopy_1 : decode cX0_tellOfCopy 1 = .ok (.iload_n 2, 1) := by decide +kernel
theorem dX0_tellOfCopy_2 : decode cX0_tellOfCopy 2 = .ok (.invokestatic 95, 3) := by decide +kernel
theorem dX0_tellOfCopy_5 : decode cX0_tellOfCopy 5 = .ok (.invokevirtual 41, 3) := by decide +kernel
theorem dX0_tellOfCopy_8 : decode cX0_tellOfCopy 8 = .ok (.istore_n 3, 1) := by decide +kernel
theorem dX0_tellOfCopy_9 : decode cX0_tellOfCopy 9 = .ok (.iconst 0, 1) := by decide +kernel
theorem dX0_tellOfCopy_10 : decode cX0_tellOfCopy 10 = .ok (.istore 4, 2) := by decide +kernel
theorem dX0_tellOfCopy_12 : decode cX0_tellOfCopy 12 = .ok (.iload 4, 2) := by decide +kernel
theorem dX0_tellOfCopy_14 : decode cX0_tellOfCopy 14 = .ok (.bipush 32, 2) := by decide +kernel
theorem dX0_tellOfCopy_16 : decode cX0_tellOfCopy 16 = .ok (.if_icmp .ge 36, 3) := by decide +kernel
theorem dX0_tellOfCopy_19 : decode cX0_tellOfCopy 19 = .ok (.iload_n 3, 1) := by decide +kernel
theorem dX0_tellOfCopy_20 : decode cX0_tellOfCopy 20 = .ok (.iload 4, 2) := by decide +kernel
theorem dX0_tellOfCopy_22 : decode cX0_tellOfCopy 22 = .ok (.invokestatic 86, 3) := by decide +kernel
theorem dX0_tellOfCopy_25 : decode cX0_tellOfCopy 25 = .ok (.ifCond .eq 21, 3) := by decide +kernel
theorem dX0_tellOfCopy_28 : decode cX0_tellOfCopy 28 = .ok (.aload_n 1, 1) := by decide +kernel
theorem dX0_tellOfCopy_29 : decode cX0_tellOfCopy 29 = .ok (.aload_n 0, 1) := by decide +kernel
theorem dX0_tellOfCopy_30 : decode cX0_tellOfCopy 30 = .ok (.getfield 9, 3) := by decide +kernel
theorem dX0_tellOfCopy_33 : decode cX0_tellOfCopy 33 = .ok (.iload_n 2, 1) := by decide +kernel
theorem dX0_tellOfCopy_34 : decode cX0_tellOfCopy 34 = .ok (.iaload, 1) := by decide +kernel
theorem dX0_tellOfCopy_35 : decode cX0_tellOfCopy 35 = .ok (.aload_n 0, 1) := by decide +kernel
theorem dX0_tellOfCopy_36 : decode cX0_tellOfCopy 36 = .ok (.getfield 15, 3) := by decide +kernel
theorem dX0_tellOfCopy_39 : decode cX0_tellOfCopy 39 = .ok (.iload 4, 2) := by decide +kernel
theorem dX0_tellOfCopy_41 : decode cX0_tellOfCopy 41 = .ok (.iaload, 1) := by decide +kernel
theorem dX0_tellOfCopy_42 : decode cX0_tellOfCopy 42 = .ok (.invokevirtual 98, 3) := by decide +kernel
theorem dX0_tellOfCopy_45 : decode cX0_tellOfCopy 45 = .ok (.pop, 1) := by decide +kernel
theorem dX0_tellOfCopy_46 : decode cX0_tellOfCopy 46 = .ok (.iinc 4 1, 3) := by decide +kernel
theorem dX0_tellOfCopy_49 : decode cX0_tellOfCopy 49 = .ok (.goto (-37), 3) := by decide +kernel
theorem dX0_tellOfCopy_52 : decode cX0_tellOfCopy 52 = .ok (.aload_n 1, 1) := by decide +kernel
theorem dX0_tellOfCopy_53 : decode cX0_tellOfCopy 53 = .ok (.iload_n 2, 1) := by decide +kernel
theorem dX0_tellOfCopy_54 : decode cX0_tellOfCopy 54 = .ok (.invokevirtual 102, 3) := by decide +kernel
theorem dX0_tellOfCopy_57 : decode cX0_tellOfCopy 57 = .ok (.lstore 4, 2) := by decide +kernel
theorem dX0_tellOfCopy_59 : decode cX0_tellOfCopy 59 = .ok (.iconst 0, 1) := by decide +kernel
theorem dX0_tellOfCopy_60 : decode cX0_tellOfCopy 60 = .ok (.istore 6, 2) := by decide +kernel
theorem dX0_tellOfCopy_62 : decode cX0_tellOfCopy 62 = .ok (.iload 6, 2) := by decide +kernel
theorem dX0_tellOfCopy_64 : decode cX0_tellOfCopy 64 = .ok (.bipush 60, 2) := by decide +kernel
theorem dX0_tellOfCopy_66 : decode cX0_tellOfCopy 66 = .ok (.if_icmp .ge 37, 3) := by decide +kernel
theorem dX0_tellOfCopy_69 : decode cX0_tellOfCopy 69 = .ok (.lload 4, 2) := by decide +kernel
theorem dX0_tellOfCopy_71 : decode cX0_tellOfCopy 71 = .ok (.iload 6, 2) := by decide +kernel
theorem dX0_tellOfCopy_73 : decode cX0_tellOfCopy 73 = .ok (.invokestatic 37, 3) := by decide +kernel
theorem dX0_tellOfCopy_76 : decode cX0_tellOfCopy 76 = .ok (.ifCond .eq 21, 3) := by decide +kernel
theorem dX0_tellOfCopy_79 : decode cX0_tellOfCopy 79 = .ok (.aload_n 1, 1) := by decide +kernel
theorem dX0_tellOfCopy_80 : decode cX0_tellOfCopy 80 = .ok (.aload_n 0, 1) := by decide +kernel
theorem dX0_tellOfCopy_81 : decode cX0_tellOfCopy 81 = .ok (.getfield 9, 3) := by decide +kernel
theorem dX0_tellOfCopy_84 : decode cX0_tellOfCopy 84 = .ok (.iload_n 2, 1) := by decide +kernel
theorem dX0_tellOfCopy_85 : decode cX0_tellOfCopy 85 = .ok (.iaload, 1) := by decide +kernel
theorem dX0_tellOfCopy_86 : decode cX0_tellOfCopy 86 = .ok (.aload_n 0, 1) := by decide +kernel
theorem dX0_tellOfCopy_87 : decode cX0_tellOfCopy 87 = .ok (.getfield 9, 3) := by decide +kernel
theorem dX0_tellOfCopy_90 : decode cX0_tellOfCopy 90 = .ok (.iload 6, 2) := by decide +kernel
theorem dX0_tellOfCopy_92 : decode cX0_tellOfCopy 92 = .ok (.iaload, 1) := by decide +kernel
theorem dX0_tellOfCopy_93 : decode cX0_tellOfCopy 93 = .ok (.invokevirtual 105, 3) := by decide +kernel
theorem dX0_tellOfCopy_96 : decode cX0_tellOfCopy 96 = .ok (.pop, 1) := by decide +kernel
theorem dX0_tellOfCopy_97 : decode cX0_tellOfCopy 97 = .ok (.iinc 6 1, 3) := by decide +kernel
theorem dX0_tellOfCopy_100 : decode cX0_tellOfCopy 100 = .ok (.goto (-38), 3) := by decide +kernel
theorem dX0_tellOfCopy_103 : decode cX0_tellOfCopy 103 = .ok (.return_, 1) := by decide +kernel
theorem dX1_init_0 : decode cX1_init 0 = .ok (.aload_n 0, 1) := by decide +kernel
theorem dX1_init_1 : decode cX1_init 1 = .ok (.invokespecial 3, 3) := by decide +kernel
theorem dX1_init_4 : decode cX1_init 4 = .ok (.aload_n 0, 1) := by decide +kernel
theorem dX1_init_5 : decode cX1_init 5 = .ok (.iconst 0, 1) := by decide +kernel
theorem dX1_init_6 : decode cX1_init 6 = .ok (.putfield 9, 3) := by decide +kernel
theorem dX1_init_9 : decode cX1_init 9 = .ok (.aload_n 0, 1) := by decide +kernel
theorem dX1_init_10 : decode cX1_init 10 = .ok (.iconst 0, 1) := by decide +kernel
theorem dX1_init_11 : decode cX1_init 11 = .ok (.putfield 15, 3) := by decide +kernel
theorem dX1_init_14 : decode cX1_init 14 = .ok (.aload_n 0, 1) := by decide +kernel
theorem dX1_init_15 : decode cX1_init 15 = .ok (.bipush 60, 2) := by decide +kernel
theorem dX1_init_17 : decode cX1_init 17 = .ok (.newarray .int, 2) := by decide +kernel
theorem dX1_init_19 : decode cX1_init 19 = .ok (.putfield 18, 3) := by decide +kernel
theorem dX1_init_22 : decode cX1_init 22 = .ok (.aload_n 0, 1) := by decide +kernel
theorem dX1_init_23 : decode cX1_init 23 = .ok (.bipush 32, 2) := by decide +kernel
theorem dX1_init_25 : decode cX1_init 25 = .ok (.newarray .int, 2) := by decide +kernel
theorem dX1_init_27 : decode cX1_init 27 = .ok (.putfield 22, 3) := by decide +kernel
theorem dX1_init_30 : decode cX1_init 30 = .ok (.aload_n 0, 1) := by decide +kernel
theorem dX1_init_31 : decode cX1_init 31 = .ok (.bipush 60, 2) := by decide +kernel
theorem dX1_init_33 : decode cX1_init 33 = .ok (.newarray .int, 2) := by decide +kernel
theorem dX1_init_35 : decode cX1_init 35 = .ok (.putfield 25, 3) := by decide +kernel
theorem dX1_init_38 : decode cX1_init 38 = .ok (.aload_n 0, 1) := by decide +kernel
theorem dX1_init_39 : decode cX1_init 39 = .ok (.bipush 60, 2) := by decide +kernel
theorem dX1_init_41 : decode cX1_init 41 = .ok (.newarray .long, 2) := by decide +kernel
theorem dX1_init_43 : decode cX1_init 43 = .ok (.putfield 28, 3) := by decide +kernel
theorem dX1_init_46 : decode cX1_init 46 = .ok (.aload_n 0, 1) := by decide +kernel
theorem dX1_init_47 : decode cX1_init 47 = .ok (.bipush 60, 2) := by decide +kernel
theorem dX1_init_49 : decode cX1_init 49 = .ok (.newarray .long, 2) := by decide +kernel
theorem dX1_init_51 : decode cX1_init 51 = .ok (.putfield 32, 3) := by decide +kernel
theorem dX1_init_54 : decode cX1_init 54 = .ok (.aload_n 0, 1) := by decide +kernel
theorem dX1_init_55 : decode cX1_init 55 = .ok (.bipush 60, 2) := by decide +kernel
theorem dX1_init_57 : decode cX1_init 57 = .ok (.newarray .int, 2) := by decide +kernel
theorem dX1_init_59 : decode cX1_init 59 = .ok (.putfield 35, 3) := by decide +kernel
theorem dX1_init_62 : decode cX1_init 62 = .ok (.aload_n 0, 1) := by decide +kernel
theorem dX1_init_63 : decode cX1_init 63 = .ok (.bipush 60, 2) := by decide +kernel
theorem dX1_init_65 : decode cX1_init 65 = .ok (.newarray .long, 2) := by decide +kernel
theorem dX1_init_67 : decode cX1_init 67 = .ok (.putfield 38, 3) := by decide +kernel
theorem dX1_init_70 : decode cX1_init 70 = .ok (.aload_n 0, 1) := by decide +kernel
theorem dX1_init_71 : decode cX1_init 71 = .ok (.bipush 60, 2) := by decide +kernel
theorem dX1_init_73 : decode cX1_init 73 = .ok (.newarray .int, 2) := by decide +kernel
theorem dX1_init_75 : decode cX1_init 75 = .ok (.putfield 41, 3) := by decide +kernel
theorem dX1_init_78 : decode cX1_init 78 = .ok (.return_, 1) := by decide +kernel
theorem dX1_takeFrom_0 : decode cX1_takeFrom 0 = .ok (.aload_n 0, 1) := by decide +kernel
theorem dX1_takeFrom_1 : decode cX1_takeFrom 1 = .ok (.aload_n 1, 1) := by decide +kernel
theorem dX1_takeFrom_2 : decode cX1_takeFrom 2 = .ok (.getfield 9, 3) := by decide +kernel
theorem dX1_takeFrom_5 : decode cX1_takeFrom 5 = .ok (.putfield 9, 3) := by decide +kernel
theorem dX1_takeFrom_8 : decode cX1_takeFrom 8 = .ok (.aload_n 0, 1) := by decide +kernel
theorem dX1_takeFrom_9 : decode cX1_takeFrom 9 = .ok (.aload_n 1, 1) := by decide +kernel
theorem dX1_takeFrom_10 : decode cX1_takeFrom 10 = .ok (.getfield 15, 3) := by decide +kernel
theorem dX1_takeFrom_13 : decode cX1_takeFrom 13 = .ok (.putfield 15, 3) := by decide +kernel
theorem dX1_takeFrom_16 : decode cX1_takeFrom 16 = .ok (.aload_n 1, 1) := by decide +kernel
theorem dX1_takeFrom_17 : decode cX1_takeFrom 17 = .ok (.getfield 18, 3) := by decide +kernel
theorem dX1_takeFrom_20 : decode cX1_takeFrom 20 = .ok (.iconst 0, 1) := by decide +kernel
theorem dX1_takeFrom_21 : decode cX1_takeFrom 21 = .ok (.aload_n 0, 1) := by decide +kernel
theorem dX1_takeFrom_22 : decode cX1_takeFrom 22 = .ok (.getfield 18, 3) := by decide +kernel
theorem dX1_takeFrom_25 : decode cX1_takeFrom 25 = .ok (.iconst 0, 1) := by decide +kernel
theorem dX1_takeFrom_26 : decode cX1_takeFrom 26 = .ok (.aload_n 0, 1) := by decide +kernel
theorem dX1_takeFrom_27 : decode cX1_takeFrom 27 = .ok (.getfield 9, 3) := by decide +kernel
theorem dX1_takeFrom_30 : decode cX1_takeFrom 30 = .ok (.invokestatic 44, 3) := by decide +kernel
theorem dX1_takeFrom_33 : decode cX1_takeFrom 33 = .ok (.aload_n 1, 1) := by decide +kernel
theorem dX1_takeFrom_34 : decode cX1_takeFrom 34 = .ok (.getfield 22, 3) := by decide +kernel
theorem dX1_takeFrom_37 : decode cX1_takeFrom 37 = .ok (.iconst 0, 1) := by decide +kernel
theorem dX1_takeFrom_38 : decode cX1_takeFrom 38 = .ok (.aload_n 0, 1) := by decide +kernel
theorem dX1_takeFrom_39 : decode cX1_takeFrom 39 = .ok (.getfield 22, 3) := by decide +kernel
theorem dX1_takeFrom_42 : decode cX1_takeFrom 42 = .ok (.iconst 0, 1) := by decide +kernel
theorem dX1_takeFrom_43 : decode cX1_takeFrom 43 = .ok (.aload_n 0, 1) := by decide +kernel
theorem dX1_takeFrom_44 : decode cX1_takeFrom 44 = .ok (.getfield 15, 3) := by decide +kernel
theorem dX1_takeFrom_47 : decode cX1_takeFrom 47 = .ok (.invokestatic 44, 3) := by decide +kernel
theorem dX1_takeFrom_50 : decode cX1_takeFrom 50 = .ok (.aload_n 1, 1) := by decide +kernel
theorem dX1_takeFrom_51 : decode cX1_takeFrom 51 = .ok (.getfield 25, 3) := by decide +kernel
theorem dX1_takeFrom_54 : decode cX1_takeFrom 54 = .ok (.iconst 0, 1) := by decide +kernel
theorem dX1_takeFrom_55 : decode cX1_takeFrom 55 = .ok (.aload_n 0, 1) := by decide +kernel
theorem dX1_takeFrom_56 : decode cX1_takeFrom 56 = .ok (.getfield 25, 3) := by decide +kernel
theorem dX1_takeFrom_59 : decode cX1_takeFrom 59 = .ok (.iconst 0, 1) := by decide +kernel
theorem dX1_takeFrom_60 : decode cX1_takeFrom 60 = .ok (.aload_n 0, 1) := by decide +kernel
theorem dX1_takeFrom_61 : decode cX1_takeFrom 61 = .ok (.getfield 9, 3) := by decide +kernel
theorem dX1_takeFrom_64 : decode cX1_takeFrom 64 = .ok (.invokestatic 44, 3) := by decide +kernel
theorem dX1_takeFrom_67 : decode cX1_takeFrom 67 = .ok (.aload_n 1, 1) := by decide +kernel
theorem dX1_takeFrom_68 : decode cX1_takeFrom 68 = .ok (.getfield 28, 3) := by decide +kernel
theorem dX1_takeFrom_71 : decode cX1_takeFrom 71 = .ok (.iconst 0, 1) := by decide +kernel
theorem dX1_takeFrom_72 : decode cX1_takeFrom 72 = .ok (.aload_n 0, 1) := by decide +kernel
theorem dX1_takeFrom_73 : decode cX1_takeFrom 73 = .ok (.getfield 28, 3) := by decide +kernel
theorem dX1_takeFrom_76 : decode cX1_takeFrom 76 = .ok (.iconst 0, 1) := by decide +kernel
theorem dX1_takeFrom_77 : decode cX1_takeFrom 77 = .ok (.aload_n 0, 1) := by decide +kernel
theorem dX1_takeFrom_78 : decode cX1_takeFrom 78 = .ok (.getfield 9, 3) := by decide +kernel
theorem dX1_takeFrom_81 : decode cX1_takeFrom 81 = .ok (.invokestatic 44, 3) := by decide +kernel
theorem dX1_takeFrom_84 : decode cX1_takeFrom 84 = .ok (.aload_n 1, 1) := by decide +kernel
theorem dX1_takeFrom_85 : decode cX1_takeFrom 85 = .ok (.getfield 32, 3) := by decide +kernel
theorem dX1_takeFrom_88 : decode cX1_takeFrom 88 = .ok (.iconst 0, 1) := by decide +kernel
theorem dX1_takeFrom_89 : decode cX1_takeFrom 89 = .ok (.aload_n 0, 1) := by decide +kernel
theorem dX1_takeFrom_90 : decode cX1_takeFrom 90 = .ok (.getfield 32, 3) := by decide +kernel
theorem dX1_takeFrom_93 : decode cX1_takeFrom 93 = .ok (.iconst 0, 1) := by decide +kernel
theorem dX1_takeFrom_94 : decode cX1_takeFrom 94 = .ok (.aload_n 0, 1) := by decide +kernel
theorem dX1_takeFrom_95 : decode cX1_takeFrom 95 = .ok (.getfield 9, 3) := by decide +kernel
theorem dX1_takeFrom_98 : decode cX1_takeFrom 98 = .ok (.invokestatic 44, 3) := by decide +kernel
theorem dX1_takeFrom_101 : decode cX1_takeFrom 101 = .ok (.aload_n 1, 1) := by decide +kernel
theorem dX1_takeFrom_102 : decode cX1_takeFrom 102 = .ok (.getfield 35, 3) := by decide +kernel
theorem dX1_takeFrom_105 : decode cX1_takeFrom 105 = .ok (.iconst 0, 1) := by decide +kernel
theorem dX1_takeFrom_106 : decode cX1_takeFrom 106 = .ok (.aload_n 0, 1) := by decide +kernel
theorem dX1_takeFrom_107 : decode cX1_takeFrom 107 = .ok (.getfield 35, 3) := by decide +kernel
theorem dX1_takeFrom_110 : decode cX1_takeFrom 110 = .ok (.iconst 0, 1) := by decide +kernel
theorem dX1_takeFrom_111 : decode cX1_takeFrom 111 = .ok (.aload_n 0, 1) := by decide +kernel
theorem dX1_takeFrom_112 : decode cX1_takeFrom 112 = .ok (.getfield 9, 3) := by decide +kernel
theorem dX1_takeFrom_115 : decode cX1_takeFrom 115 = .ok (.invokestatic 44, 3) := by decide +kernel
theorem dX1_takeFrom_118 : decode cX1_takeFrom 118 = .ok (.aload_n 1, 1) := by decide +kernel
theorem dX1_takeFrom_119 : decode cX1_takeFrom 119 = .ok (.getfield 38, 3) := by decide +kernel
theorem dX1_takeFrom_122 : decode cX1_takeFrom 122 = .ok (.iconst 0, 1) := by decide +kernel
theorem dX1_takeFrom_123 : decode cX1_takeFrom 123 = .ok (.aload_n 0, 1) := by decide +kernel
theorem dX1_takeFrom_124 : decode cX1_takeFrom 124 = .ok (.getfield 38, 3) := by decide +kernel
theorem dX1_takeFrom_127 : decode cX1_takeFrom 127 = .ok (.iconst 0, 1) := by decide +kernel
theorem dX1_takeFrom_128 : decode cX1_takeFrom 128 = .ok (.aload_n 0, 1) := by decide +kernel
theorem dX1_takeFrom_129 : decode cX1_takeFrom 129 = .ok (.getfield 9, 3) := by decide +kernel
theorem dX1_takeFrom_132 : decode cX1_takeFrom 132 = .ok (.invokestatic 44, 3) := by decide +kernel
theorem dX1_takeFrom_135 : decode cX1_takeFrom 135 = .ok (.aload_n 1, 1) := by decide +kernel
theorem dX1_takeFrom_136 : decode cX1_takeFrom 136 = .ok (.getfield 41, 3) := by decide +kernel
theorem dX1_takeFrom_139 : decode cX1_takeFrom 139 = .ok (.iconst 0, 1) := by decide +kernel
theorem dX1_takeFrom_140 : decode cX1_takeFrom 140 = .ok (.aload_n 0, 1) := by decide +kernel
theorem dX1_takeFrom_141 : decode cX1_takeFrom 141 = .ok (.getfield 41, 3) := by decide +kernel
theorem dX1_takeFrom_144 : decode cX1_takeFrom 144 = .ok (.iconst 0, 1) := by decide +kernel
theorem dX1_takeFrom_145 : decode cX1_takeFrom 145 = .ok (.aload_n 0, 1) := by decide +kernel
theorem dX1_takeFrom_146 : decode cX1_takeFrom 146 = .ok (.getfield 9, 3) := by decide +kernel
theorem dX1_takeFrom_149 : decode cX1_takeFrom 149 = .ok (.invokestatic 44, 3) := by decide +kernel
theorem dX1_takeFrom_152 : decode cX1_takeFrom 152 = .ok (.return_, 1) := by decide +kernel
set_option maxRecDepth 20000 in
theorem ggX1_addVariable_X3_bit : GoodIn wsX1_addVariable wsX3_bit := goodIn_r _ [11] (by decide +kernel) (by decide +kernel)
set_option maxRecDepth 20000 in
theorem gX1_addVariable_X3_bit_n50 : GoodIn wsX1_addVariable (wsX3_bit) := ggX1_addVariable_X3_bit
theorem dX1_addVariable_0 : decode cX1_addVariable 0 = .ok (.aload_n 0, 1) := by decide +kernel
theorem dX1_addVariable_1 : decode cX1_addVariable 1 = .ok (.getfield 9, 3) := by decide +kernel
theorem dX1_addVariable_4 : decode cX1_addVariable 4 = .ok (.bipush 60, 2) := by decide +kernel
theorem dX1_addVariable_6 : decode cX1_addVariable 6 = .ok (.if_icmp .lt 5, 3) := by decide +kernel
theorem dX1_addVariable_9 : decode cX1_addVariable 9 = .ok (.iconst (-1), 1) := by decide +kernel
theorem dX1_addVariable_10 : decode cX1_addVariable 10 = .ok (.ireturn, 1) := by decide +kernel
theorem dX1_addVariable_11 : decode cX1_addVariable 11 = .ok (.aload_n 0, 1) := by decide +kernel
theorem dX1_addVariable_12 : decode cX1_addVariable 12 = .ok (.getfield 9, 3) := by decide +kernel
theorem dX1_addVariable_15 : decode cX1_addVariable 15 = .ok (.istore_n 2, 1) := by decide +kernel
theorem dX1_addVariable_16 : decode cX1_addVariable 16 = .ok (.aload_n 0, 1) := by decide +kernel
theorem dX1_addVariable_17 : decode cX1_addVariable 17 = .ok (.getfield 18, 3) := by decide +kernel
theorem dX1_addVariable_20 : decode cX1_addVariable 20 = .ok (.iload_n 2, 1) := by decide +kernel
theorem dX1_addVariable_21 : decode cX1_addVariable 21 = .ok (.iload_n 1, 1) := by decide +kernel
theorem dX1_addVariable_22 : decode cX1_addVariable 22 = .ok (.iastore, 1) := by decide +kernel
theorem dX1_addVariable_23 : decode cX1_addVariable 23 = .ok (.aload_n 0, 1) := by decide +kernel
theorem dX1_addVariable_24 : decode cX1_addVariable 24 = .ok (.getfield 25, 3) := by decide +kernel
theorem dX1_addVariable_27 : decode cX1_addVariable 27 = .ok (.iload_n 2, 1) := by decide +kernel
theorem dX1_addVariable_28 : decode cX1_addVariable 28 = .ok (.iconst 0, 1) := by decide +kernel
theorem dX1_addVariable_29 : decode cX1_addVariable 29 = .ok (.iastore, 1) := by decide +kernel
theorem dX1_addVariable_30 : decode cX1_addVariable 30 = .ok (.aload_n 0, 1) := by decide +kernel
theorem dX1_addVariable_31 : decode cX1_addVariable 31 = .ok (.getfield 28, 3) := by decide +kernel
theorem dX1_addVariable_34 : decode cX1_addVariable 34 = .ok (.iload_n 2, 1) := by decide +kernel
theorem dX1_addVariable_35 : decode cX1_addVariable 35 = .ok (.lconst 0, 1) := by decide +kernel
theorem dX1_addVariable_36 : decode cX1_addVariable 36 = .ok (.lastore, 1) := by decide +kernel
theorem dX1_addVariable_37 : decode cX1_addVariable 37 = .ok (.aload_n 0, 1) := by decide +kernel
theorem dX1_addVariable_38 : decode cX1_addVariable 38 = .ok (.getfield 32, 3) := by decide +kernel
theorem dX1_addVariable_41 : decode cX1_addVariable 41 = .ok (.iload_n 2, 1) := by decide +kernel
theorem dX1_addVariable_42 : decode cX1_addVariable 42 = .ok (.lconst 0, 1) := by decide +kernel
theorem dX1_addVariable_43 : decode cX1_addVariable 43 = .ok (.lastore, 1) := by decide +kernel
theorem dX1_addVariable_44 : decode cX1_addVariable 44 = .ok (.aload_n 0, 1) := by decide +kernel
theorem dX1_addVariable_45 : decode cX1_addVariable 45 = .ok (.getfield 35, 3) := by decide +kernel
theorem dX1_addVariable_48 : decode cX1_addVariable 48 = .ok (.iload_n 2, 1) := by decide +kernel
theorem dX1_addVariable_49 : decode cX1_addVariable 49 = .ok (.iload_n 2, 1) := by decide +kernel
theorem dX1_addVariable_50 : decode cX1_addVariable 50 = .ok (.iastore, 1) := by decide +kernel
theorem dX1_addVariable_51 : decode cX1_addVariable 51 = .ok (.aload_n 0, 1) := by decide +kernel
theorem dX1_addVariable_52 : decode cX1_addVariable 52 = .ok (.getfield 38, 3) := by decide +kernel
theorem dX1_addVariable_55 : decode cX1_addVariable 55 = .ok (.iload_n 2, 1) := by decide +kernel
theorem dX1_addVariable_56 : decode cX1_addVariable 56 = .ok (.iload_n 2, 1) := by decide +kernel
theorem dX1_addVariable_57 : decode cX1_addVariable 57 = .ok (.invokestatic 50, 3) := by decide +kernel
theorem dX1_addVariable_60 : decode cX1_addVariable 60 = .ok (.lastore, 1) := by decide +kernel
theorem dX1_addVariable_61 : decode cX1_addVariable 61 = .ok (.aload_n 0, 1) := by decide +kernel
theorem dX1_addVariable_62 : decode cX1_addVariable 62 = .ok (.getfield 41, 3) := by decide +kernel
theorem dX1_addVariable_65 : decode cX1_addVariable 65 = .ok (.iload_n 2, 1) := by decide +kernel
theorem dX1_addVariable_66 : decode cX1_addVariable 66 = .ok (.iconst 0, 1) := by decide +kernel
theorem dX1_addVariable_67 : decode cX1_addVariable 67 = .ok (.iastore, 1) := by decide +kernel
theorem dX1_addVariable_68 : decode cX1_addVariable 68 = .ok (.aload_n 0, 1) := by decide +kernel
theorem dX1_addVariable_69 : decode cX1_addVariable 69 = .ok (.dup, 1) := by decide +kernel
theorem dX1_addVariable_70 : decode cX1_addVariable 70 = .ok (.getfield 9, 3) := by decide +kernel
theorem dX1_addVariable_73 : decode cX1_addVariable 73 = .ok (.iconst 1, 1) := by decide +kernel
theorem dX1_addVariable_74 : decode cX1_addVariable 74 = .ok (.iadd, 1) := by decide +kernel
theorem dX1_addVariable_75 : decode cX1_addVariable 75 = .ok (.putfield 9, 3) := by decide +kernel
theorem dX1_addVariable_78 : decode cX1_addVariable 78 = .ok (.iload_n 2, 1) := by decide +kernel
theorem dX1_addVariable_79 : decode cX1_addVariable 79 = .ok (.ireturn, 1) := by decide +kernel
theorem dX1_addAtom_0 : decode cX1_addAtom 0 = .ok (.aload_n 0, 1) := by decide +kernel
theorem dX1_addAtom_1 : decode cX1_addAtom 1 = .ok (.getfield 15, 3) := by decide +kernel
theorem dX1_addAtom_4 : decode cX1_addAtom 4 = .ok (.bipush 32, 2) := by decide +kernel
theorem dX1_addAtom_6 : decode cX1_addAtom 6 = .ok (.if_icmp .lt 5, 3) := by decide +kernel
theorem dX1_addAtom_9 : decode cX1_addAtom 9 = .ok (.iconst (-1), 1) := by decide +kernel
theorem dX1_addAtom_10 : decode cX1_addAtom 10 = .ok (.ireturn, 1) := by decide +kernel
theorem dX1_addAtom_11 : decode cX1_addAtom 11 = .ok (.aload_n 0, 1) := by decide +kernel
theorem dX1_addAtom_12 : decode cX1_addAtom 12 = .ok (.getfield 15, 3) := by decide +kernel
theorem dX1_addAtom_15 : decode cX1_addAtom 15 = .ok (.istore_n 2, 1) := by decide +kernel
theorem dX1_addAtom_16 : decode cX1_addAtom 16 = .ok (.aload_n 0, 1) := by decide +kernel
theorem dX1_addAtom_17 : decode cX1_addAtom 17 = .ok (.getfield 22, 3) := by decide +kernel
theorem dX1_addAtom_20 : decode cX1_addAtom 20 = .ok (.iload_n 2, 1) := by decide +kernel
theorem dX1_addAtom_21 : decode cX1_addAtom 21 = .ok (.iload_n 1, 1) := by decide +kernel
theorem dX1_addAtom_22 : decode cX1_addAtom 22 = .ok (.iastore, 1) := by decide +kernel
theorem dX1_addAtom_23 : decode cX1_addAtom 23 = .ok (.aload_n 0, 1) := by decide +kernel
theorem dX1_addAtom_24 : decode cX1_addAtom 24 = .ok (.dup, 1) := by decide +kernel
theorem dX1_addAtom_25 : decode cX1_addAtom 25 = .ok (.getfield 15, 3) := by decide +kernel
theorem dX1_addAtom_28 : decode cX1_addAtom 28 = .ok (.iconst 1, 1) := by decide +kernel
theorem dX1_addAtom_29 : decode cX1_addAtom 29 = .ok (.iadd, 1) := by decide +kernel
theorem dX1_addAtom_30 : decode cX1_addAtom 30 = .ok (.putfield 15, 3) := by decide +kernel
theorem dX1_addAtom_33 : decode cX1_addAtom 33 = .ok (.iload_n 2, 1) := by decide +kernel
theorem dX1_addAtom_34 : decode cX1_addAtom 34 = .ok (.ireturn, 1) := by decide +kernel
theorem dX1_hasRoomFor_0 : decode cX1_hasRoomFor 0 = .ok (.iload_n 1, 1) := by decide +kernel
theorem dX1_hasRoomFor_1 : decode cX1_hasRoomFor 1 = .ok (.bipush 60, 2) := by decide +kernel
theorem dX1_hasRoomFor_3 : decode cX1_hasRoomFor 3 = .ok (.aload_n 0, 1) := by decide +kernel
theorem dX1_hasRoomFor_4 : decode cX1_hasRoomFor 4 = .ok (.getfield 9, 3) := by decide +kernel
theorem dX1_hasRoomFor_7 : decode cX1_hasRoomFor 7 = .ok (.isub, 1) := by decide +kernel
theorem dX1_hasRoomFor_8 : decode cX1_hasRoomFor 8 = .ok (.if_icmp .gt 18, 3) := by decide +kernel
theorem dX1_hasRoomFor_11 : decode cX1_hasRoomFor 11 = .ok (.iload_n 2, 1) := by decide +kernel
theorem dX1_hasRoomFor_12 : decode cX1_hasRoomFor 12 = .ok (.bipush 32, 2) := by decide +kernel
theorem dX1_hasRoomFor_14 : decode cX1_hasRoomFor 14 = .ok (.aload_n 0, 1) := by decide +kernel
theorem dX1_hasRoomFor_15 : decode cX1_hasRoomFor 15 = .ok (.getfield 15, 3) := by decide +kernel
theorem dX1_hasRoomFor_18 : decode cX1_hasRoomFor 18 = .ok (.isub, 1) := by decide +kernel
theorem dX1_hasRoomFor_19 : decode cX1_hasRoomFor 19 = .ok (.if_icmp .gt 7, 3) := by decide +kernel
theorem dX1_hasRoomFor_22 : decode cX1_hasRoomFor 22 = .ok (.iconst 1, 1) := by decide +kernel
theorem dX1_hasRoomFor_23 : decode cX1_hasRoomFor 23 = .ok (.goto 4, 3) := by decide +kernel
theorem dX1_hasRoomFor_26 : decode cX1_hasRoomFor 26 = .ok (.iconst 0, 1) := by decide +kernel
theorem dX1_hasRoomFor_27 : decode cX1_hasRoomFor 27 = .ok (.ireturn, 1) := by decide +kernel
set_option maxRecDepth 20000 in
theorem ggX1_tellHas_X1_spread : GoodIn wsX1_tellHas wsX1_spread := goodIn_r _ [6, 7, 8, 9, 10, 11, 12, 13, 14, 15, 16, 17, 18, 19, 20, 21, 22, 23, 24, 25, 26, 27, 28, 29] (by decide +kernel) (by decide +kernel)
set_option maxRecDepth 20000 in
theorem gX1_tellHas_X1_spread : GoodIn wsX1_tellHas (wsV RX1 54 RX1 yX1_spread wsX1_spread) := goodIn_app (goodIn_of _ (by decide +kernel)) ggX1_tellHas_X1_spread
theorem dX1_tellHas_0 : decode cX1_tellHas 0 = .ok (.iconst 1, 1) := by decide +kernel
theorem dX1_tellHas_1 : decode cX1_tellHas 1 = .ok (.iload_n 2, 1) := by decide +kernel
theorem dX1_tellHas_2 : decode cX1_tellHas 2 = .ok (.ishl, 1) := by decide +kernel
theorem dX1_tellHas_3 : decode cX1_tellHas 3 = .ok (.istore_n 3, 1) := by decide +kernel
theorem dX1_tellHas_4 : decode cX1_tellHas 4 = .ok (.aload_n 0, 1) := by decide +kernel
theorem dX1_tellHas_5 : decode cX1_tellHas 5 = .ok (.getfield 25, 3) := by decide +kernel
theorem dX1_tellHas_8 : decode cX1_tellHas 8 = .ok (.iload_n 1, 1) := by decide +kernel
theorem dX1_tellHas_9 : decode cX1_tellHas 9 = .ok (.dup2, 1) := by decide +kernel
theorem dX1_tellHas_10 : decode cX1_tellHas 10 = .ok (.iaload, 1) := by decide +kernel
theorem dX1_tellHas_11 : decode cX1_tellHas 11 = .ok (.iload_n 3, 1) := by decide +kernel
theorem dX1_tellHas_12 : decode cX1_tellHas 12 = .ok (.ior, 1) := by decide +kernel
theorem dX1_tellHas_13 : decode cX1_tellHas 13 = .ok (.iastore, 1) := by decide +kernel
theorem dX1_tellHas_14 : decode cX1_tellHas 14 = .ok (.aload_n 0, 1) := by decide +kernel
theorem dX1_tellHas_15 : decode cX1_tellHas 15 = .ok (.iload_n 1, 1) := by decide +kernel
theorem dX1_tellHas_16 : decode cX1_tellHas 16 = .ok (.lconst 0, 1) := by decide +kernel
theorem dX1_tellHas_17 : decode cX1_tellHas 17 = .ok (.iload_n 3, 1) := by decide +kernel
theorem dX1_tellHas_18 : decode cX1_tellHas 18 = .ok (.invokevirtual 54, 3) := by decide +kernel
theorem dX1_tellHas_21 : decode cX1_tellHas 21 = .ok (.ireturn, 1) := by decide +kernel
set_option maxRecDepth 20000 in
theorem ggX1_tellIncludes_X3_bit : GoodIn wsX1_tellIncludes wsX3_bit := goodIn_r _ [4] (by decide +kernel) (by decide +kernel)
set_option maxRecDepth 20000 in
theorem gX1_tellIncludes_X3_bit_n50 : GoodIn wsX1_tellIncludes (wsX3_bit) := ggX1_tellIncludes_X3_bit
set_option maxRecDepth 20000 in
theorem ggX1_tellIncludes_X1_link : GoodIn wsX1_tellIncludes wsX1_link := goodIn_r _ [9, 10, 11, 12, 3, 13, 14, 15, 16, 8, 17, 18, 19, 20, 21, 22, 23, 24, 25, 26, 27, 28, 29, 30, 31, 32, 33, 34, 35] (by decide +kernel) (by decide +kernel)
set_option maxRecDepth 20000 in
theorem gX1_tellIncludes_X1_link : GoodIn wsX1_tellIncludes (wsV RX1 58 RX1 yX1_link wsX1_link) := goodIn_app (goodIn_of _ (by decide +kernel)) ggX1_tellIncludes_X1_link
theorem dX1_tellIncludes_0 : decode cX1_tellIncludes 0 = .ok (.aload_n 0, 1) := by decide +kernel
theorem dX1_tellIncludes_1 : decode cX1_tellIncludes 1 = .ok (.getfield 28, 3) := by decide +kernel
theorem dX1_tellIncludes_4 : decode cX1_tellIncludes 4 = .ok (.iload_n 1, 1) := by decide +kernel
theorem dX1_tellIncludes_5 : decode cX1_tellIncludes 5 = .ok (.dup2, 1) := by decide +kernel
theorem dX1_tellIncludes_6 : decode cX1_tellIncludes 6 = .ok (.laload, 1) := by decide +kernel
theorem dX1_tellIncludes_7 : decode cX1_tellIncludes 7 = .ok (.iload_n 2, 1) := by decide +kernel
theorem dX1_tellIncludes_8 : decode cX1_tellIncludes 8 = .ok (.invokestatic 50, 3) := by decide +kernel
theorem dX1_tellIncludes_11 : decode cX1_tellIncludes 11 = .ok (.lor, 1) := by decide +kernel
theorem dX1_tellIncludes_12 : decode cX1_tellIncludes 12 = .ok (.lastore, 1) := by decide +kernel
theorem dX1_tellIncludes_13 : decode cX1_tellIncludes 13 = .ok (.aload_n 0, 1) := by decide +kernel
theorem dX1_tellIncludes_14 : decode cX1_tellIncludes 14 = .ok (.iload_n 1, 1) := by decide +kernel
theorem dX1_tellIncludes_15 : decode cX1_tellIncludes 15 = .ok (.iload_n 2, 1) := by decide +kernel
theorem dX1_tellIncludes_16 : decode cX1_tellIncludes 16 = .ok (.invokevirtual 58, 3) := by decide +kernel
theorem dX1_tellIncludes_19 : decode cX1_tellIncludes 19 = .ok (.ireturn, 1) := by decide +kernel
set_option maxRecDepth 20000 in
theorem ggX1_tellOne_X3_bit : GoodIn wsX1_tellOne wsX3_bit := goodIn_r _ [5] (by decide +kernel) (by decide +kernel)
set_option maxRecDepth 20000 in
theorem gX1_tellOne_X3_bit_n50 : GoodIn wsX1_tellOne (wsX3_bit) := ggX1_tellOne_X3_bit
set_option maxRecDepth 20000 in
theorem ggX1_tellOne_X1_mergeNodes : GoodIn wsX1_tellOne wsX1_mergeNodes := goodIn_r _ [10, 11, 12, 13, 14, 15, 2, 35, 36, 37, 38, 39, 40, 41, 42, 43, 44] (by decide +kernel) (by decide +kernel)
set_option maxRecDepth 20000 in
theorem gX1_tellOne_X1_mergeNodes : GoodIn wsX1_tellOne (wsV RX1 62 RX1 yX1_mergeNodes wsX1_mergeNodes) := goodIn_app (goodIn_of _ (by decide +kernel)) ggX1_tellOne_X1_mergeNodes
set_option maxRecDepth 20000 in
theorem ggX1_tellOne_X1_link : GoodIn wsX1_tellOne wsX1_link := goodIn_r _ [19, 20, 21, 22, 4, 23, 24, 25, 26, 9, 27, 15, 28, 29, 30, 31, 32, 33, 34, 35, 36, 37, 38, 39, 40, 41, 42, 43, 44] (by decide +kernel) (by decide +kernel)
set_option maxRecDepth 20000 in
theorem gX1_tellOne_X1_link : GoodIn wsX1_tellOne (wsV RX1 58 RX1 yX1_link wsX1_link) := goodIn_app (goodIn_of _ (by decide +kernel)) ggX1_tellOne_X1_link
theorem dX1_tellOne_0 : decode cX1_tellOne 0 = .ok (.iload_n 1, 1) := by decide +kernel
theorem dX1_tellOne_1 : decode cX1_tellOne 1 = .ok (.iload_n 2, 1) := by decide +kernel
theorem dX1_tellOne_2 : decode cX1_tellOne 2 = .ok (.if_icmp .ne 5, 3) := by decide +kernel
theorem dX1_tellOne_5 : decode cX1_tellOne 5 = .ok (.iconst 0, 1) := by decide +kernel
theorem dX1_tellOne_6 : decode cX1_tellOne 6 = .ok (.ireturn, 1) := by decide +kernel
theorem dX1_tellOne_7 : decode cX1_tellOne 7 = .ok (.aload_n 0, 1) := by decide +kernel
theorem dX1_tellOne_8 : decode cX1_tellOne 8 = .ok (.getfield 32, 3) := by decide +kernel
theorem dX1_tellOne_11 : decode cX1_tellOne 11 = .ok (.iload_n 1, 1) := by decide +kernel
theorem dX1_tellOne_12 : decode cX1_tellOne 12 = .ok (.dup2, 1) := by decide +kernel
theorem dX1_tellOne_13 : decode cX1_tellOne 13 = .ok (.laload, 1) := by decide +kernel
theorem dX1_tellOne_14 : decode cX1_tellOne 14 = .ok (.iload_n 2, 1) := by decide +kernel
theorem dX1_tellOne_15 : decode cX1_tellOne 15 = .ok (.invokestatic 50, 3) := by decide +kernel
theorem dX1_tellOne_18 : decode cX1_tellOne 18 = .ok (.lor, 1) := by decide +kernel
theorem dX1_tellOne_19 : decode cX1_tellOne 19 = .ok (.lastore, 1) := by decide +kernel
theorem dX1_tellOne_20 : decode cX1_tellOne 20 = .ok (.aload_n 0, 1) := by decide +kernel
theorem dX1_tellOne_21 : decode cX1_tellOne 21 = .ok (.getfield 32, 3) := by decide +kernel
theorem dX1_tellOne_24 : decode cX1_tellOne 24 = .ok (.iload_n 2, 1) := by decide +kernel
theorem dX1_tellOne_25 : decode cX1_tellOne 25 = .ok (.dup2, 1) := by decide +kernel
theorem dX1_tellOne_26 : decode cX1_tellOne 26 = .ok (.laload, 1) := by decide +kernel
theorem dX1_tellOne_27 : decode cX1_tellOne 27 = .ok (.iload_n 1, 1) := by decide +kernel
theorem dX1_tellOne_28 : decode cX1_tellOne 28 = .ok (.invokestatic 50, 3) := by decide +kernel
theorem dX1_tellOne_31 : decode cX1_tellOne 31 = .ok (.lor, 1) := by decide +kernel
theorem dX1_tellOne_32 : decode cX1_tellOne 32 = .ok (.lastore, 1) := by decide +kernel
theorem dX1_tellOne_33 : decode cX1_tellOne 33 = .ok (.aload_n 0, 1) := by decide +kernel
theorem dX1_tellOne_34 : decode cX1_tellOne 34 = .ok (.aload_n 0, 1) := by decide +kernel
theorem dX1_tellOne_35 : decode cX1_tellOne 35 = .ok (.getfield 35, 3) := by decide +kernel
theorem dX1_tellOne_38 : decode cX1_tellOne 38 = .ok (.iload_n 1, 1) := by decide +kernel
theorem dX1_tellOne_39 : decode cX1_tellOne 39 = .ok (.iaload, 1) := by decide +kernel
theorem dX1_tellOne_40 : decode cX1_tellOne 40 = .ok (.aload_n 0, 1) := by decide +kernel
theorem dX1_tellOne_41 : decode cX1_tellOne 41 = .ok (.getfield 35, 3) := by decide +kernel
theorem dX1_tellOne_44 : decode cX1_tellOne 44 = .ok (.iload_n 2, 1) := by decide +kernel
theorem dX1_tellOne_45 : decode cX1_tellOne 45 = .ok (.iaload, 1) := by decide +kernel
theorem dX1_tellOne_46 : decode cX1_tellOne 46 = .ok (.invokevirtual 62, 3) := by decide +kernel
theorem dX1_tellOne_49 : decode cX1_tellOne 49 = .ok (.aload_n 0, 1) := by decide +kernel
theorem dX1_tellOne_50 : decode cX1_tellOne 50 = .ok (.iload_n 1, 1) := by decide +kernel
theorem dX1_tellOne_51 : decode cX1_tellOne 51 = .ok (.iload_n 2, 1) := by decide +kernel
theorem dX1_tellOne_52 : decode cX1_tellOne 52 = .ok (.invokevirtual 58, 3) := by decide +kernel
theorem dX1_tellOne_55 : decode cX1_tellOne 55 = .ok (.aload_n 0, 1) := by decide +kernel
theorem dX1_tellOne_56 : decode cX1_tellOne 56 = .ok (.iload_n 2, 1) := by decide +kernel
theorem dX1_tellOne_57 : decode cX1_tellOne 57 = .ok (.iload_n 1, 1) := by decide +kernel
theorem dX1_tellOne_58 : decode cX1_tellOne 58 = .ok (.invokevirtual 58, 3) := by decide +kernel
theorem dX1_tellOne_61 : decode cX1_tellOne 61 = .ok (.iadd, 1) := by decide +kernel
theorem dX1_tellOne_62 : decode cX1_tellOne 62 = .ok (.ireturn, 1) := by decide +kernel
theorem dX1_mergeNodes_0 : decode cX1_mergeNodes 0 = .ok (.iload_n 1, 1) := by decide +kernel
theorem dX1_mergeNodes_1 : decode cX1_mergeNodes 1 = .ok (.iload_n 2, 1) := by decide +kernel
theorem dX1_mergeNodes_2 : decode cX1_mergeNodes 2 = .ok (.invokestatic 66, 3) := by decide +kernel
theorem dX1_mergeNodes_5 : decode cX1_mergeNodes 5 = .ok (.istore_n 3, 1) := by decide +kernel
theorem dX1_mergeNodes_6 : decode cX1_mergeNodes 6 = .ok (.iconst 0, 1) := by decide +kernel
theorem dX1_mergeNodes_7 : decode cX1_mergeNodes 7 = .ok (.istore 4, 2) := by decide +kernel
theorem dX1_mergeNodes_9 : decode cX1_mergeNodes 9 = .ok (.iload 4, 2) := by decide +kernel
theorem dX1_mergeNodes_11 : decode cX1_mergeNodes 11 = .ok (.aload_n 0, 1) := by decide +kernel
theorem dX1_mergeNodes_12 : decode cX1_mergeNodes 12 = .ok (.getfield 9, 3) := by decide +kernel
theorem dX1_mergeNodes_15 : decode cX1_mergeNodes 15 = .ok (.if_icmp .ge 39, 3) := by decide +kernel
theorem dX1_mergeNodes_18 : decode cX1_mergeNodes 18 = .ok (.aload_n 0, 1) := by decide +kernel
theorem dX1_mergeNodes_19 : decode cX1_mergeNodes 19 = .ok (.getfield 35, 3) := by decide +kernel
theorem dX1_mergeNodes_22 : decode cX1_mergeNodes 22 = .ok (.iload 4, 2) := by decide +kernel
theorem dX1_mergeNodes_24 : decode cX1_mergeNodes 24 = .ok (.iaload, 1) := by decide +kernel
theorem dX1_mergeNodes_25 : decode cX1_mergeNodes 25 = .ok (.iload_n 1, 1) := by decide +kernel
theorem dX1_mergeNodes_26 : decode cX1_mergeNodes 26 = .ok (.if_icmp .eq 14, 3) := by decide +kernel
theorem dX1_mergeNodes_29 : decode cX1_mergeNodes 29 = .ok (.aload_n 0, 1) := by decide +kernel
theorem dX1_mergeNodes_30 : decode cX1_mergeNodes 30 = .ok (.getfield 35, 3) := by decide +kernel
theorem dX1_mergeNodes_33 : decode cX1_mergeNodes 33 = .ok (.iload 4, 2) := by decide +kernel
theorem dX1_mergeNodes_35 : decode cX1_mergeNodes 35 = .ok (.iaload, 1) := by decide +kernel
theorem dX1_mergeNodes_36 : decode cX1_mergeNodes 36 = .ok (.iload_n 2, 1) := by decide +kernel
theorem dX1_mergeNodes_37 : decode cX1_mergeNodes 37 = .ok (.if_icmp .ne 11, 3) := by decide +kernel
theorem dX1_mergeNodes_40 : decode cX1_mergeNodes 40 = .ok (.aload_n 0, 1) := by decide +kernel
theorem dX1_mergeNodes_41 : decode cX1_mergeNodes 41 = .ok (.getfield 35, 3) := by decide +kernel
theorem dX1_mergeNodes_44 : decode cX1_mergeNodes 44 = .ok (.iload 4, 2) := by decide +kernel
theorem dX1_mergeNodes_46 : decode cX1_mergeNodes 46 = .ok (.iload_n 3, 1) := by decide +kernel
theorem dX1_mergeNodes_47 : decode cX1_mergeNodes 47 = .ok (.iastore, 1) := by decide +kernel
theorem dX1_mergeNodes_48 : decode cX1_mergeNodes 48 = .ok (.iinc 4 1, 3) := by decide +kernel
theorem dX1_mergeNodes_51 : decode cX1_mergeNodes 51 = .ok (.goto (-42), 3) := by decide +kernel
theorem dX1_mergeNodes_54 : decode cX1_mergeNodes 54 = .ok (.return_, 1) := by decide +kernel
set_option maxRecDepth 20000 in
theorem ggX1_link_X3_contains : GoodIn wsX1_link wsX3_contains := goodIn_r _ [5] (by decide +kernel) (by decide +kernel)
set_option maxRecDepth 20000 in
theorem gX1_link_X3_contains_n71 : GoodIn wsX1_link (wsX3_contains) := ggX1_link_X3_contains
set_option maxRecDepth 20000 in
theorem ggX1_link_X1_spread : GoodIn wsX1_link wsX1_spread := goodIn_r _ [10, 11, 1, 2, 3, 4, 5, 12, 13, 14, 15, 16, 17, 18, 19, 20, 21, 22, 23, 24, 25, 26, 27, 28] (by decide +kernel) (by decide +kernel)
set_option maxRecDepth 20000 in
theorem gX1_link_X1_spread : GoodIn wsX1_link (wsV RX1 54 RX1 yX1_spread wsX1_spread) := goodIn_app (goodIn_of _ (by decide +kernel)) ggX1_link_X1_spread
theorem dX1_link_0 : decode cX1_link 0 = .ok (.aload_n 0, 1) := by decide +kernel
theorem dX1_link_1 : decode cX1_link 1 = .ok (.getfield 38, 3) := by decide +kernel
theorem dX1_link_4 : decode cX1_link 4 = .ok (.iload_n 1, 1) := by decide +kernel
theorem dX1_link_5 : decode cX1_link 5 = .ok (.laload, 1) := by decide +kernel
theorem dX1_link_6 : decode cX1_link 6 = .ok (.iload_n 2, 1) := by decide +kernel
theorem dX1_link_7 : decode cX1_link 7 = .ok (.invokestatic 71, 3) := by decide +kernel
theorem dX1_link_10 : decode cX1_link 10 = .ok (.ifCond .eq 5, 3) := by decide +kernel
theorem dX1_link_13 : decode cX1_link 13 = .ok (.iconst 0, 1) := by decide +kernel
theorem dX1_link_14 : decode cX1_link 14 = .ok (.ireturn, 1) := by decide +kernel
theorem dX1_link_15 : decode cX1_link 15 = .ok (.aload_n 0, 1) := by decide +kernel
theorem dX1_link_16 : decode cX1_link 16 = .ok (.iload_n 1, 1) := by decide +kernel
theorem dX1_link_17 : decode cX1_link 17 = .ok (.aload_n 0, 1) := by decide +kernel
theorem dX1_link_18 : decode cX1_link 18 = .ok (.getfield 38, 3) := by decide +kernel
theorem dX1_link_21 : decode cX1_link 21 = .ok (.iload_n 2, 1) := by decide +kernel
theorem dX1_link_22 : decode cX1_link 22 = .ok (.laload, 1) := by decide +kernel
theorem dX1_link_23 : decode cX1_link 23 = .ok (.aload_n 0, 1) := by decide +kernel
theorem dX1_link_24 : decode cX1_link 24 = .ok (.getfield 41, 3) := by decide +kernel
theorem dX1_link_27 : decode cX1_link 27 = .ok (.iload_n 2, 1) := by decide +kernel
theorem dX1_link_28 : decode cX1_link 28 = .ok (.iaload, 1) := by decide +kernel
theorem dX1_link_29 : decode cX1_link 29 = .ok (.invokevirtual 54, 3) := by decide +kernel
theorem dX1_link_32 : decode cX1_link 32 = .ok (.ireturn, 1) := by decide +kernel
set_option maxRecDepth 20000 in
theorem ggX1_spread_X3_contains : GoodIn wsX1_spread wsX3_contains := goodIn_r _ [6] (by decide +kernel) (by decide +kernel)
set_option maxRecDepth 20000 in
theorem gX1_spread_X3_contains_n71 : GoodIn wsX1_spread (wsX3_contains) := ggX1_spread_X3_contains
set_option maxRecDepth 20000 in
theorem ggX1_spread_J6_bitCount_0f7a4 : GoodIn wsX1_spread wsJ6_bitCount_0f7a4 := goodIn_r _ [10, 11, 12, 13] (by decide +kernel) (by decide +kernel)
set_option maxRecDepth 20000 in
theorem gX1_spread_J6_bitCount_0f7a4 : GoodIn wsX1_spread (va_wsS RX1 75 yJ6_bitCount_0f7a4 wsJ6_bitCount_0f7a4) := goodIn_app (goodIn_of _ (by decide +kernel)) ggX1_spread_J6_bitCount_0f7a4
theorem dX1_spread_0 : decode cX1_spread 0 = .ok (.iconst 0, 1) := by decide +kernel
theorem dX1_spread_1 : decode cX1_spread 1 = .ok (.istore 5, 2) := by decide +kernel
theorem dX1_spread_3 : decode cX1_spread 3 = .ok (.iconst 0, 1) := by decide +kernel
theorem dX1_spread_4 : decode cX1_spread 4 = .ok (.istore 6, 2) := by decide +kernel
theorem dX1_spread_6 : decode cX1_spread 6 = .ok (.iload 6, 2) := by decide +kernel
theorem dX1_spread_8 : decode cX1_spread 8 = .ok (.aload_n 0, 1) := by decide +kernel
theorem dX1_spread_9 : decode cX1_spread 9 = .ok (.getfield 9, 3) := by decide +kernel
theorem dX1_spread_12 : decode cX1_spread 12 = .ok (.if_icmp .ge 66, 3) := by decide +kernel
theorem dX1_spread_15 : decode cX1_spread 15 = .ok (.aload_n 0, 1) := by decide +kernel
theorem dX1_spread_16 : decode cX1_spread 16 = .ok (.getfield 38, 3) := by decide +kernel
theorem dX1_spread_19 : decode cX1_spread 19 = .ok (.iload 6, 2) := by decide +kernel
theorem dX1_spread_21 : decode cX1_spread 21 = .ok (.laload, 1) := by decide +kernel
theorem dX1_spread_22 : decode cX1_spread 22 = .ok (.iload_n 1, 1) := by decide +kernel
theorem dX1_spread_23 : decode cX1_spread 23 = .ok (.invokestatic 71, 3) := by decide +kernel
theorem dX1_spread_26 : decode cX1_spread 26 = .ok (.ifCond .eq 46, 3) := by decide +kernel
theorem dX1_spread_29 : decode cX1_spread 29 = .ok (.iload 5, 2) := by decide +kernel
theorem dX1_spread_31 : decode cX1_spread 31 = .ok (.iload 4, 2) := by decide +kernel
theorem dX1_spread_33 : decode cX1_spread 33 = .ok (.aload_n 0, 1) := by decide +kernel
theorem dX1_spread_34 : decode cX1_spread 34 = .ok (.getfield 41, 3) := by decide +kernel
theorem dX1_spread_37 : decode cX1_spread 37 = .ok (.iload 6, 2) := by decide +kernel
theorem dX1_spread_39 : decode cX1_spread 39 = .ok (.iaload, 1) := by decide +kernel
theorem dX1_spread_40 : decode cX1_spread 40 = .ok (.iconst (-1), 1) := by decide +kernel
theorem dX1_spread_41 : decode cX1_spread 41 = .ok (.ixor, 1) := by decide +kernel
theorem dX1_spread_42 : decode cX1_spread 42 = .ok (.iand, 1) := by decide +kernel
theorem dX1_spread_43 : decode cX1_spread 43 = .ok (.invokestatic 75, 3) := by decide +kernel
theorem dX1_spread_46 : decode cX1_spread 46 = .ok (.iadd, 1) := by decide +kernel
theorem dX1_spread_47 : decode cX1_spread 47 = .ok (.istore 5, 2) := by decide +kernel
theorem dX1_spread_49 : decode cX1_spread 49 = .ok (.aload_n 0, 1) := by decide +kernel
theorem dX1_spread_50 : decode cX1_spread 50 = .ok (.getfield 41, 3) := by decide +kernel
theorem dX1_spread_53 : decode cX1_spread 53 = .ok (.iload 6, 2) := by decide +kernel
theorem dX1_spread_55 : decode cX1_spread 55 = .ok (.dup2, 1) := by decide +kernel
theorem dX1_spread_56 : decode cX1_spread 56 = .ok (.iaload, 1) := by decide +kernel
theorem dX1_spread_57 : decode cX1_spread 57 = .ok (.iload 4, 2) := by decide +kernel
theorem dX1_spread_59 : decode cX1_spread 59 = .ok (.ior, 1) := by decide +kernel
theorem dX1_spread_60 : decode cX1_spread 60 = .ok (.iastore, 1) := by decide +kernel
theorem dX1_spread_61 : decode cX1_spread 61 = .ok (.aload_n 0, 1) := by decide +kernel
theorem dX1_spread_62 : decode cX1_spread 62 = .ok (.getfield 38, 3) := by decide +kernel
theorem dX1_spread_65 : decode cX1_spread 65 = .ok (.iload 6, 2) := by decide +kernel
theorem dX1_spread_67 : decode cX1_spread 67 = .ok (.dup2, 1) := by decide +kernel
theorem dX1_spread_68 : decode cX1_spread 68 = .ok (.laload, 1) := by decide +kernel
theorem dX1_spread_69 : decode cX1_spread 69 = .ok (.lload_n 2, 1) := by decide +kernel
theorem dX1_spread_70 : decode cX1_spread 70 = .ok (.lor, 1) := by decide +kernel
theorem dX1_spread_71 : decode cX1_spread 71 = .ok (.lastore, 1) := by decide +kernel
theorem dX1_spread_72 : decode cX1_spread 72 = .ok (.iinc 6 1, 3) := by decide +kernel
theorem dX1_spread_75 : decode cX1_spread 75 = .ok (.goto (-69), 3) := by decide +kernel
theorem dX1_spread_78 : decode cX1_spread 78 = .ok (.iload 5, 2) := by decide +kernel
theorem dX1_spread_80 : decode cX1_spread 80 = .ok (.ireturn, 1) := by decide +kernel
set_option maxRecDepth 20000 in
theorem ggX1_joinRings_X1_joinRingOf : GoodIn wsX1_joinRings wsX1_joinRingOf := goodIn_r _ [7, 1, 2, 8, 9, 10, 6, 11, 12, 13, 14, 15, 16, 17, 18, 19, 20, 21, 22, 23, 24, 25, 26, 27, 28, 29, 30, 31, 32, 33, 34, 35, 36, 37, 38, 39, 40, 41, 42, 43, 44, 45, 46, 47, 48, 49, 50, 51, 52, 53, 54, 55, 56] (by decide +kernel) (by decide +kernel)
set_option maxRecDepth 20000 in
theorem gX1_joinRings_X1_joinRingOf : GoodIn wsX1_joinRings (wsV RX1 81 RX1 yX1_joinRingOf wsX1_joinRingOf) := goodIn_app (goodIn_of _ (by decide +kernel)) ggX1_joinRings_X1_joinRingOf
theorem dX1_joinRings_0 : decode cX1_joinRings 0 = .ok (.iconst 0, 1) := by decide +kernel
theorem dX1_joinRings_1 : decode cX1_joinRings 1 = .ok (.istore_n 1, 1) := by decide +kernel
theorem dX1_joinRings_2 : decode cX1_joinRings 2 = .ok (.iconst 0, 1) := by decide +kernel
theorem dX1_joinRings_3 : decode cX1_joinRings 3 = .ok (.istore_n 2, 1) := by decide +kernel
theorem dX1_joinRings_4 : decode cX1_joinRings 4 = .ok (.iload_n 2, 1) := by decide +kernel
theorem dX1_joinRings_5 : decode cX1_joinRings 5 = .ok (.aload_n 0, 1) := by decide +kernel
theorem dX1_joinRings_6 : decode cX1_joinRings 6 = .ok (.getfield 9, 3) := by decide +kernel
theorem dX1_joinRings_9 : decode cX1_joinRings 9 = .ok (.if_icmp .ge 27, 3) := by decide +kernel
theorem dX1_joinRings_12 : decode cX1_joinRings 12 = .ok (.aload_n 0, 1) := by decide +kernel
theorem dX1_joinRings_13 : decode cX1_joinRings 13 = .ok (.getfield 35, 3) := by decide +kernel
theorem dX1_joinRings_16 : decode cX1_joinRings 16 = .ok (.iload_n 2, 1) := by decide +kernel
theorem dX1_joinRings_17 : decode cX1_joinRings 17 = .ok (.iaload, 1) := by decide +kernel
theorem dX1_joinRings_18 : decode cX1_joinRings 18 = .ok (.iload_n 2, 1) := by decide +kernel
theorem dX1_joinRings_19 : decode cX1_joinRings 19 = .ok (.if_icmp .ne 11, 3) := by decide +kernel
theorem dX1_joinRings_22 : decode cX1_joinRings 22 = .ok (.iload_n 1, 1) := by decide +kernel
theorem dX1_joinRings_23 : decode cX1_joinRings 23 = .ok (.aload_n 0, 1) := by decide +kernel
theorem dX1_joinRings_24 : decode cX1_joinRings 24 = .ok (.iload_n 2, 1) := by decide +kernel
theorem dX1_joinRings_25 : decode cX1_joinRings 25 = .ok (.invokevirtual 81, 3) := by decide +kernel
theorem dX1_joinRings_28 : decode cX1_joinRings 28 = .ok (.iadd, 1) := by decide +kernel
theorem dX1_joinRings_29 : decode cX1_joinRings 29 = .ok (.istore_n 1, 1) := by decide +kernel
theorem dX1_joinRings_30 : decode cX1_joinRings 30 = .ok (.iinc 2 1, 3) := by decide +kernel
theorem dX1_joinRings_33 : decode cX1_joinRings 33 = .ok (.goto (-29), 3) := by decide +kernel
theorem dX1_joinRings_36 : decode cX1_joinRings 36 = .ok (.iload_n 1, 1) := by decide +kernel
theorem dX1_joinRings_37 : decode cX1_joinRings 37 = .ok (.ireturn, 1) := by decide +kernel
set_option maxRecDepth 20000 in
theorem ggX1_joinRingOf_X1_inOneRing : GoodIn wsX1_joinRingOf wsX1_inOneRing := goodIn_r _ [7, 8, 9, 10, 11, 43, 44, 45, 46, 47, 48, 49, 50, 51, 52] (by decide +kernel) (by decide +kernel)
set_option maxRecDepth 20000 in
theorem gX1_joinRingOf_X1_inOneRing : GoodIn wsX1_joinRingOf (wsV RX1 84 RX1 yX1_inOneRing wsX1_inOneRing) := goodIn_app (goodIn_of _ (by decide +kernel)) ggX1_joinRingOf_X1_inOneRing
set_option maxRecDepth 20000 in
theorem ggX1_joinRingOf_X1_tellOne : GoodIn wsX1_joinRingOf wsX1_tellOne := goodIn_r _ [15, 16, 2, 17, 10, 18, 19, 20, 21, 6, 22, 23, 24, 25, 26, 1, 27, 28, 29, 30, 8, 31, 9, 11, 32, 33, 34, 35, 36, 37, 38, 39, 40, 41, 42, 43, 44, 45, 46, 47, 48, 49, 50, 51, 52] (by decide +kernel) (by decide +kernel)
set_option maxRecDepth 20000 in
theorem gX1_joinRingOf_X1_tellOne : GoodIn wsX1_joinRingOf (wsV RX1 88 RX1 yX1_tellOne wsX1_tellOne) := goodIn_app (goodIn_of _ (by decide +kernel)) ggX1_joinRingOf_X1_tellOne
theorem dX1_joinRingOf_0 : decode cX1_joinRingOf 0 = .ok (.iconst 0, 1) := by decide +kernel
theorem dX1_joinRingOf_1 : decode cX1_joinRingOf 1 = .ok (.istore_n 2, 1) := by decide +kernel
theorem dX1_joinRingOf_2 : decode cX1_joinRingOf 2 = .ok (.iload_n 1, 1) := by decide +kernel
theorem dX1_joinRingOf_3 : decode cX1_joinRingOf 3 = .ok (.iconst 1, 1) := by decide +kernel
theorem dX1_joinRingOf_4 : decode cX1_joinRingOf 4 = .ok (.iadd, 1) := by decide +kernel
theorem dX1_joinRingOf_5 : decode cX1_joinRingOf 5 = .ok (.istore_n 3, 1) := by decide +kernel
theorem dX1_joinRingOf_6 : decode cX1_joinRingOf 6 = .ok (.iload_n 3, 1) := by decide +kernel
theorem dX1_joinRingOf_7 : decode cX1_joinRingOf 7 = .ok (.aload_n 0, 1) := by decide +kernel
theorem dX1_joinRingOf_8 : decode cX1_joinRingOf 8 = .ok (.getfield 9, 3) := by decide +kernel
theorem dX1_joinRingOf_11 : decode cX1_joinRingOf 11 = .ok (.if_icmp .ge 38, 3) := by decide +kernel
theorem dX1_joinRingOf_14 : decode cX1_joinRingOf 14 = .ok (.aload_n 0, 1) := by decide +kernel
theorem dX1_joinRingOf_15 : decode cX1_joinRingOf 15 = .ok (.getfield 35, 3) := by decide +kernel
theorem dX1_joinRingOf_18 : decode cX1_joinRingOf 18 = .ok (.iload_n 3, 1) := by decide +kernel
theorem dX1_joinRingOf_19 : decode cX1_joinRingOf 19 = .ok (.iaload, 1) := by decide +kernel
theorem dX1_joinRingOf_20 : decode cX1_joinRingOf 20 = .ok (.iload_n 3, 1) := by decide +kernel
theorem dX1_joinRingOf_21 : decode cX1_joinRingOf 21 = .ok (.if_icmp .ne 22, 3) := by decide +kernel
theorem dX1_joinRingOf_24 : decode cX1_joinRingOf 24 = .ok (.aload_n 0, 1) := by decide +kernel
theorem dX1_joinRingOf_25 : decode cX1_joinRingOf 25 = .ok (.iload_n 1, 1) := by decide +kernel
theorem dX1_joinRingOf_26 : decode cX1_joinRingOf 26 = .ok (.iload_n 3, 1) := by decide +kernel
theorem dX1_joinRingOf_27 : decode cX1_joinRingOf 27 = .ok (.invokevirtual 84, 3) := by decide +kernel
theorem dX1_joinRingOf_30 : decode cX1_joinRingOf 30 = .ok (.ifCond .eq 13, 3) := by decide +kernel
theorem dX1_joinRingOf_33 : decode cX1_joinRingOf 33 = .ok (.aload_n 0, 1) := by decide +kernel
theorem dX1_joinRingOf_34 : decode cX1_joinRingOf 34 = .ok (.iload_n 1, 1) := by decide +kernel
theorem dX1_joinRingOf_35 : decode cX1_joinRingOf 35 = .ok (.iload_n 3, 1) := by decide +kernel
theorem dX1_joinRingOf_36 : decode cX1_joinRingOf 36 = .ok (.invokevirtual 88, 3) := by decide +kernel
theorem dX1_joinRingOf_39 : decode cX1_joinRingOf 39 = .ok (.pop, 1) := by decide +kernel
theorem dX1_joinRingOf_40 : decode cX1_joinRingOf 40 = .ok (.iinc 2 1, 3) := by decide +kernel
theorem dX1_joinRingOf_43 : decode cX1_joinRingOf 43 = .ok (.iinc 3 1, 3) := by decide +kernel
theorem dX1_joinRingOf_46 : decode cX1_joinRingOf 46 = .ok (.goto (-40), 3) := by decide +kernel
theorem dX1_joinRingOf_49 : decode cX1_joinRingOf 49 = .ok (.iload_n 2, 1) := by decide +kernel
theorem dX1_joinRingOf_50 : decode cX1_joinRingOf 50 = .ok (.ireturn, 1) := by decide +kernel
set_option maxRecDepth 20000 in
theorem ggX1_inOneRing_X3_contains : GoodIn wsX1_inOneRing wsX3_contains := goodIn_r _ [4] (by decide +kernel) (by decide +kernel)
set_option maxRecDepth 20000 in
theorem gX1_inOneRing_X3_contains_n71 : GoodIn wsX1_inOneRing (wsX3_contains) := ggX1_inOneRing_X3_contains
theorem dX1_inOneRing_0 : decode cX1_inOneRing 0 = .ok (.aload_n 0, 1) := by decide +kernel
theorem dX1_inOneRing_1 : decode cX1_inOneRing 1 = .ok (.getfield 38, 3) := by decide +kernel
theorem dX1_inOneRing_4 : decode cX1_inOneRing 4 = .ok (.iload_n 1, 1) := by decide +kernel
theorem dX1_inOneRing_5 : decode cX1_inOneRing 5 = .ok (.laload, 1) := by decide +kernel
theorem dX1_inOneRing_6 : decode cX1_inOneRing 6 = .ok (.iload_n 2, 1) := by decide +kernel
theorem dX1_inOneRing_7 : decode cX1_inOneRing 7 = .ok (.invokestatic 71, 3) := by decide +kernel
theorem dX1_inOneRing_10 : decode cX1_inOneRing 10 = .ok (.ifCond .eq 20, 3) := by decide +kernel
theorem dX1_inOneRing_13 : decode cX1_inOneRing 13 = .ok (.aload_n 0, 1) := by decide +kernel
theorem dX1_inOneRing_14 : decode cX1_inOneRing 14 = .ok (.getfield 38, 3) := by decide +kernel
theorem dX1_inOneRing_17 : decode cX1_inOneRing 17 = .ok (.iload_n 2, 1) := by decide +kernel
theorem dX1_inOneRing_18 : decode cX1_inOneRing 18 = .ok (.laload, 1) := by decide +kernel
theorem dX1_inOneRing_19 : decode cX1_inOneRing 19 = .ok (.iload_n 1, 1) := by decide +kernel
theorem dX1_inOneRing_20 : decode cX1_inOneRing 20 = .ok (.invokestatic 71, 3) := by decide +kernel
theorem dX1_inOneRing_23 : decode cX1_inOneRing 23 = .ok (.ifCond .eq 7, 3) := by decide +kernel
theorem dX1_inOneRing_26 : decode cX1_inOneRing 26 = .ok (.iconst 1, 1) := by decide +kernel
theorem dX1_inOneRing_27 : decode cX1_inOneRing 27 = .ok (.goto 4, 3) := by decide +kernel
theorem dX1_inOneRing_30 : decode cX1_inOneRing 30 = .ok (.iconst 0, 1) := by decide +kernel
theorem dX1_inOneRing_31 : decode cX1_inOneRing 31 = .ok (.ireturn, 1) := by decide +kernel
set_option maxRecDepth 20000 in
theorem ggX1_leastOfRing_X1_inOneRing : GoodIn wsX1_leastOfRing wsX1_inOneRing := goodIn_r _ [5, 6, 7, 8, 9, 10, 11, 12, 13, 14, 15, 16, 17, 18, 19] (by decide +kernel) (by decide +kernel)
set_option maxRecDepth 20000 in
theorem gX1_leastOfRing_X1_inOneRing : GoodIn wsX1_leastOfRing (wsV RX1 84 RX1 yX1_inOneRing wsX1_inOneRing) := goodIn_app (goodIn_of _ (by decide +kernel)) ggX1_leastOfRing_X1_inOneRing
theorem dX1_leastOfRing_0 : decode cX1_leastOfRing 0 = .ok (.iconst 0, 1) := by decide +kernel
theorem dX1_leastOfRing_1 : decode cX1_leastOfRing 1 = .ok (.istore_n 2, 1) := by decide +kernel
theorem dX1_leastOfRing_2 : decode cX1_leastOfRing 2 = .ok (.iload_n 2, 1) := by decide +kernel
theorem dX1_leastOfRing_3 : decode cX1_leastOfRing 3 = .ok (.iload_n 1, 1) := by decide +kernel
theorem dX1_leastOfRing_4 : decode cX1_leastOfRing 4 = .ok (.if_icmp .ge 20, 3) := by decide +kernel
theorem dX1_leastOfRing_7 : decode cX1_leastOfRing 7 = .ok (.aload_n 0, 1) := by decide +kernel
theorem dX1_leastOfRing_8 : decode cX1_leastOfRing 8 = .ok (.iload_n 2, 1) := by decide +kernel
theorem dX1_leastOfRing_9 : decode cX1_leastOfRing 9 = .ok (.iload_n 1, 1) := by decide +kernel
theorem dX1_leastOfRing_10 : decode cX1_leastOfRing 10 = .ok (.invokevirtual 84, 3) := by decide +kernel
theorem dX1_leastOfRing_13 : decode cX1_leastOfRing 13 = .ok (.ifCond .eq 5, 3) := by decide +kernel
theorem dX1_leastOfRing_16 : decode cX1_leastOfRing 16 = .ok (.iload_n 2, 1) := by decide +kernel
theorem dX1_leastOfRing_17 : decode cX1_leastOfRing 17 = .ok (.ireturn, 1) := by decide +kernel
theorem dX1_leastOfRing_18 : decode cX1_leastOfRing 18 = .ok (.iinc 2 1, 3) := by decide +kernel
theorem dX1_leastOfRing_21 : decode cX1_leastOfRing 21 = .ok (.goto (-19), 3) := by decide +kernel
theorem dX1_leastOfRing_24 : decode cX1_leastOfRing 24 = .ok (.iload_n 1, 1) := by decide +kernel
theorem dX1_leastOfRing_25 : decode cX1_leastOfRing 25 = .ok (.ireturn, 1) := by decide +kernel
theorem dX1_nodes_0 : decode cX1_nodes 0 = .ok (.iconst 0, 1) := by decide +kernel
theorem dX1_nodes_1 : decode cX1_nodes 1 = .ok (.istore_n 1, 1) := by decide +kernel
theorem dX1_nodes_2 : decode cX1_nodes 2 = .ok (.iconst 0, 1) := by decide +kernel
theorem dX1_nodes_3 : decode cX1_nodes 3 = .ok (.istore_n 2, 1) := by decide +kernel
theorem dX1_nodes_4 : decode cX1_nodes 4 = .ok (.iload_n 2, 1) := by decide +kernel
theorem dX1_nodes_5 : decode cX1_nodes 5 = .ok (.aload_n 0, 1) := by decide +kernel
theorem dX1_nodes_6 : decode cX1_nodes 6 = .ok (.getfield 9, 3) := by decide +kernel
theorem dX1_nodes_9 : decode cX1_nodes 9 = .ok (.if_icmp .ge 22, 3) := by decide +kernel
theorem dX1_nodes_12 : decode cX1_nodes 12 = .ok (.aload_n 0, 1) := by decide +kernel
theorem dX1_nodes_13 : decode cX1_nodes 13 = .ok (.getfield 35, 3) := by decide +kernel
theorem dX1_nodes_16 : decode cX1_nodes 16 = .ok (.iload_n 2, 1) := by decide +kernel
theorem dX1_nodes_17 : decode cX1_nodes 17 = .ok (.iaload, 1) := by decide +kernel
theorem dX1_nodes_18 : decode cX1_nodes 18 = .ok (.iload_n 2, 1) := by decide +kernel
theorem dX1_nodes_19 : decode cX1_nodes 19 = .ok (.if_icmp .ne 6, 3) := by decide +kernel
theorem dX1_nodes_22 : decode cX1_nodes 22 = .ok (.iinc 1 1, 3) := by decide +kernel
theorem dX1_nodes_25 : decode cX1_nodes 25 = .ok (.iinc 2 1, 3) := by decide +kernel
theorem dX1_nodes_28 : decode cX1_nodes 28 = .ok (.goto (-24), 3) := by decide +kernel
theorem dX1_nodes_31 : decode cX1_nodes 31 = .ok (.iload_n 1, 1) := by decide +kernel
theorem dX1_nodes_32 : decode cX1_nodes 32 = .ok (.ireturn, 1) := by decide +kernel
set_option maxRecDepth 20000 in
theorem ggX1_rings_X1_leastOfRing : GoodIn wsX1_rings wsX1_leastOfRing := goodIn_r _ [6, 7, 8, 9, 5, 10, 11, 12, 13, 14, 15, 16, 17, 18, 19, 20, 21, 22, 23, 24] (by decide +kernel) (by decide +kernel)
set_option maxRecDepth 20000 in
theorem gX1_rings_X1_leastOfRing : GoodIn wsX1_rings (wsV RX1 91 RX1 yX1_leastOfRing wsX1_leastOfRing) := goodIn_app (goodIn_of _ (by decide +kernel)) ggX1_rings_X1_leastOfRing
theorem dX1_rings_0 : decode cX1_rings 0 = .ok (.iconst 0, 1) := by decide +kernel
theorem dX1_rings_1 : decode cX1_rings 1 = .ok (.istore_n 1, 1) := by decide +kernel
theorem dX1_rings_2 : decode cX1_rings 2 = .ok (.iconst 0, 1) := by decide +kernel
theorem dX1_rings_3 : decode cX1_rings 3 = .ok (.istore_n 2, 1) := by decide +kernel
theorem dX1_rings_4 : decode cX1_rings 4 = .ok (.iload_n 2, 1) := by decide +kernel
theorem dX1_rings_5 : decode cX1_rings 5 = .ok (.aload_n 0, 1) := by decide +kernel
theorem dX1_rings_6 : decode cX1_rings 6 = .ok (.getfield 9, 3) := by decide +kernel
theorem dX1_rings_9 : decode cX1_rings 9 = .ok (.if_icmp .ge 21, 3) := by decide +kernel
theorem dX1_rings_12 : decode cX1_rings 12 = .ok (.aload_n 0, 1) := by decide +kernel
theorem dX1_rings_13 : decode cX1_rings 13 = .ok (.iload_n 2, 1) := by decide +kernel
theorem dX1_rings_14 : decode cX1_rings 14 = .ok (.invokevirtual 91, 3) := by decide +kernel
theorem dX1_rings_17 : decode cX1_rings 17 = .ok (.iload_n 2, 1) := by decide +kernel
theorem dX1_rings_18 : decode cX1_rings 18 = .ok (.if_icmp .ne 6, 3) := by decide +kernel
theorem dX1_rings_21 : decode cX1_rings 21 = .ok (.iinc 1 1, 3) := by decide +kernel
theorem dX1_rings_24 : decode cX1_rings 24 = .ok (.iinc 2 1, 3) := by decide +kernel
theorem dX1_rings_27 : decode cX1_rings 27 = .ok (.goto (-23), 3) := by decide +kernel
theorem dX1_rings_30 : decode cX1_rings 30 = .ok (.iload_n 1, 1) := by decide +kernel
theorem dX1_rings_31 : decode cX1_rings 31 = .ok (.ireturn, 1) := by decide +kernel
theorem dX1_membersOf_0 : decode cX1_membersOf 0 = .ok (.iconst 0, 1) := by decide +kernel
theorem dX1_membersOf_1 : decode cX1_membersOf 1 = .ok (.istore_n 2, 1) := by decide +kernel
theorem dX1_membersOf_2 : decode cX1_membersOf 2 = .ok (.iconst 0, 1) := by decide +kernel
theorem dX1_membersOf_3 : decode cX1_membersOf 3 = .ok (.istore_n 3, 1) := by decide +kernel
theorem dX1_membersOf_4 : decode cX1_membersOf 4 = .ok (.iload_n 3, 1) := by decide +kernel
theorem dX1_membersOf_5 : decode cX1_membersOf 5 = .ok (.aload_n 0, 1) := by decide +kernel
theorem dX1_membersOf_6 : decode cX1_membersOf 6 = .ok (.getfield 9, 3) := by decide +kernel
theorem dX1_membersOf_9 : decode cX1_membersOf 9 = .ok (.if_icmp .ge 22, 3) := by decide +kernel
theorem dX1_membersOf_12 : decode cX1_membersOf 12 = .ok (.aload_n 0, 1) := by decide +kernel
theorem dX1_membersOf_13 : decode cX1_membersOf 13 = .ok (.getfield 35, 3) := by decide +kernel
theorem dX1_membersOf_16 : decode cX1_membersOf 16 = .ok (.iload_n 3, 1) := by decide +kernel
theorem dX1_membersOf_17 : decode cX1_membersOf 17 = .ok (.iaload, 1) := by decide +kernel
theorem dX1_membersOf_18 : decode cX1_membersOf 18 = .ok (.iload_n 1, 1) := by decide +kernel
theorem dX1_membersOf_19 : decode cX1_membersOf 19 = .ok (.if_icmp .ne 6, 3) := by decide +kernel
theorem dX1_membersOf_22 : decode cX1_membersOf 22 = .ok (.iinc 2 1, 3) := by decide +kernel
theorem dX1_membersOf_25 : decode cX1_membersOf 25 = .ok (.iinc 3 1, 3) := by decide +kernel
theorem dX1_membersOf_28 : decode cX1_membersOf 28 = .ok (.goto (-24), 3) := by decide +kernel
theorem dX1_membersOf_31 : decode cX1_membersOf 31 = .ok (.iload_n 2, 1) := by decide +kernel
theorem dX1_membersOf_32 : decode cX1_membersOf 32 = .ok (.ireturn, 1) := by decide +kernel
set_option maxRecDepth 20000 in
theorem ggX1_levelOf_X3_contains : GoodIn wsX1_levelOf wsX3_contains := goodIn_r _ [10] (by decide +kernel) (by decide +kernel)
set_option maxRecDepth 20000 in
theorem gX1_levelOf_X3_contains_n71 : GoodIn wsX1_levelOf (wsX3_contains) := ggX1_levelOf_X3_contains
theorem dX1_levelOf_0 : decode cX1_levelOf 0 = .ok (.aload_n 0, 1) := by decide +kernel
theorem dX1_levelOf_1 : decode cX1_levelOf 1 = .ok (.getfield 18, 3) := by decide +kernel
theorem dX1_levelOf_4 : decode cX1_levelOf 4 = .ok (.iload_n 1, 1) := by decide +kernel
theorem dX1_levelOf_5 : decode cX1_levelOf 5 = .ok (.iaload, 1) := by decide +kernel
theorem dX1_levelOf_6 : decode cX1_levelOf 6 = .ok (.istore_n 2, 1) := by decide +kernel
theorem dX1_levelOf_7 : decode cX1_levelOf 7 = .ok (.iconst 0, 1) := by decide +kernel
theorem dX1_levelOf_8 : decode cX1_levelOf 8 = .ok (.istore_n 3, 1) := by decide +kernel
theorem dX1_levelOf_9 : decode cX1_levelOf 9 = .ok (.iload_n 3, 1) := by decide +kernel
theorem dX1_levelOf_10 : decode cX1_levelOf 10 = .ok (.aload_n 0, 1) := by decide +kernel
theorem dX1_levelOf_11 : decode cX1_levelOf 11 = .ok (.getfield 9, 3) := by decide +kernel
theorem dX1_levelOf_14 : decode cX1_levelOf 14 = .ok (.if_icmp .ge 33, 3) := by decide +kernel
theorem dX1_levelOf_17 : decode cX1_levelOf 17 = .ok (.aload_n 0, 1) := by decide +kernel
theorem dX1_levelOf_18 : decode cX1_levelOf 18 = .ok (.getfield 38, 3) := by decide +kernel
theorem dX1_levelOf_21 : decode cX1_levelOf 21 = .ok (.iload_n 3, 1) := by decide +kernel
theorem dX1_levelOf_22 : decode cX1_levelOf 22 = .ok (.laload, 1) := by decide +kernel
theorem dX1_levelOf_23 : decode cX1_levelOf 23 = .ok (.iload_n 1, 1) := by decide +kernel
theorem dX1_levelOf_24 : decode cX1_levelOf 24 = .ok (.invokestatic 71, 3) := by decide +kernel
theorem dX1_levelOf_27 : decode cX1_levelOf 27 = .ok (.ifCond .eq 14, 3) := by decide +kernel
theorem dX1_levelOf_30 : decode cX1_levelOf 30 = .ok (.iload_n 2, 1) := by decide +kernel
theorem dX1_levelOf_31 : decode cX1_levelOf 31 = .ok (.aload_n 0, 1) := by decide +kernel
theorem dX1_levelOf_32 : decode cX1_levelOf 32 = .ok (.getfield 18, 3) := by decide +kernel
theorem dX1_levelOf_35 : decode cX1_levelOf 35 = .ok (.iload_n 3, 1) := by decide +kernel
theorem dX1_levelOf_36 : decode cX1_levelOf 36 = .ok (.iaload, 1) := by decide +kernel
theorem dX1_levelOf_37 : decode cX1_levelOf 37 = .ok (.invokestatic 66, 3) := by decide +kernel
theorem dX1_levelOf_40 : decode cX1_levelOf 40 = .ok (.istore_n 2, 1) := by decide +kernel
theorem dX1_levelOf_41 : decode cX1_levelOf 41 = .ok (.iinc 3 1, 3) := by decide +kernel
theorem dX1_levelOf_44 : decode cX1_levelOf 44 = .ok (.goto (-35), 3) := by decide +kernel
theorem dX1_levelOf_47 : decode cX1_levelOf 47 = .ok (.iload_n 2, 1) := by decide +kernel
theorem dX1_levelOf_48 : decode cX1_levelOf 48 = .ok (.ireturn, 1) := by decide +kernel
set_option maxRecDepth 20000 in
theorem ggX1_levelOfAtom_X3_containsAtom : GoodIn wsX1_levelOfAtom wsX3_containsAtom := goodIn_r _ [11] (by decide +kernel) (by decide +kernel)
set_option maxRecDepth 20000 in
theorem gX1_levelOfAtom_X3_containsAtom_n94 : GoodIn wsX1_levelOfAtom (wsX3_containsAtom) := ggX1_levelOfAtom_X3_containsAtom
theorem dX1_levelOfAtom_0 : decode cX1_levelOfAtom 0 = .ok (.aload_n 0, 1) := by decide +kernel
theorem dX1_levelOfAtom_1 : decode cX1_levelOfAtom 1 = .ok (.getfield 22, 3) := by decide +kernel
theorem dX1_levelOfAtom_4 : decode cX1_levelOfAtom 4 = .ok (.iload_n 1, 1) := by decide +kernel
theorem dX1_levelOfAtom_5 : decode cX1_levelOfAtom 5 = .ok (.iaload, 1) := by decide +kernel
theorem dX1_levelOfAtom_6 : decode cX1_levelOfAtom 6 = .ok (.istore_n 2, 1) := by decide +kernel
theorem dX1_levelOfAtom_7 : decode cX1_levelOfAtom 7 = .ok (.iconst 0, 1) := by decide +kernel
theorem dX1_levelOfAtom_8 : decode cX1_levelOfAtom 8 = .ok (.istore_n 3, 1) := by decide +kernel
theorem dX1_levelOfAtom_9 : decode cX1_levelOfAtom 9 = .ok (.iload_n 3, 1) := by decide +kernel
theorem dX1_levelOfAtom_10 : decode cX1_levelOfAtom 10 = .ok (.aload_n 0, 1) := by decide +kernel
theorem dX1_levelOfAtom_11 : decode cX1_levelOfAtom 11 = .ok (.getfield 9, 3) := by decide +kernel
theorem dX1_levelOfAtom_14 : decode cX1_levelOfAtom 14 = .ok (.if_icmp .ge 33, 3) := by decide +kernel
theorem dX1_levelOfAtom_17 : decode cX1_levelOfAtom 17 = .ok (.aload_n 0, 1) := by decide +kernel
theorem dX1_levelOfAtom_18 : decode cX1_levelOfAtom 18 = .ok (.getfield 41, 3) := by decide +kernel
theorem dX1_levelOfAtom_21 : decode cX1_levelOfAtom 21 = .ok (.iload_n 3, 1) := by decide +kernel
theorem dX1_levelOfAtom_22 : decode cX1_levelOfAtom 22 = .ok (.iaload, 1) := by decide +kernel
theorem dX1_levelOfAtom_23 : decode cX1_levelOfAtom 23 = .ok (.iload_n 1, 1) := by decide +kernel
theorem dX1_levelOfAtom_24 : decode cX1_levelOfAtom 24 = .ok (.invokestatic 94, 3) := by decide +kernel
theorem dX1_levelOfAtom_27 : decode cX1_levelOfAtom 27 = .ok (.ifCond .eq 14, 3) := by decide +kernel
theorem dX1_levelOfAtom_30 : decode cX1_levelOfAtom 30 = .ok (.iload_n 2, 1) := by decide +kernel
theorem dX1_levelOfAtom_31 : decode cX1_levelOfAtom 31 = .ok (.aload_n 0, 1) := by decide +kernel
theorem dX1_levelOfAtom_32 : decode cX1_levelOfAtom 32 = .ok (.getfield 18, 3) := by decide +kernel
theorem dX1_levelOfAtom_35 : decode cX1_levelOfAtom 35 = .ok (.iload_n 3, 1) := by decide +kernel
theorem dX1_levelOfAtom_36 : decode cX1_levelOfAtom 36 = .ok (.iaload, 1) := by decide +kernel
theorem dX1_levelOfAtom_37 : decode cX1_levelOfAtom 37 = .ok (.invokestatic 66, 3) := by decide +kernel
theorem dX1_levelOfAtom_40 : decode cX1_levelOfAtom 40 = .ok (.istore_n 2, 1) := by decide +kernel
theorem dX1_levelOfAtom_41 : decode cX1_levelOfAtom 41 = .ok (.iinc 3 1, 3) := by decide +kernel
theorem dX1_levelOfAtom_44 : decode cX1_levelOfAtom 44 = .ok (.goto (-35), 3) := by decide +kernel
theorem dX1_levelOfAtom_47 : decode cX1_levelOfAtom 47 = .ok (.iload_n 2, 1) := by decide +kernel
theorem dX1_levelOfAtom_48 : decode cX1_levelOfAtom 48 = .ok (.ireturn, 1) := by decide +kernel
set_option maxRecDepth 20000 in
theorem ggX1_setsWith_X3_containsAtom : GoodIn wsX1_setsWith wsX3_containsAtom := goodIn_r _ [5] (by decide +kernel) (by decide +kernel)
set_option maxRecDepth 20000 in
theorem gX1_setsWith_X3_containsAtom_n94 : GoodIn wsX1_setsWith (wsX3_containsAtom) := ggX1_setsWith_X3_containsAtom
theorem dX1_setsWith_0 : decode cX1_setsWith 0 = .ok (.iconst 0, 1) := by decide +kernel
theorem dX1_setsWith_1 : decode cX1_setsWith 1 = .ok (.istore_n 2, 1) := by decide +kernel
theorem dX1_setsWith_2 : decode cX1_setsWith 2 = .ok (.iconst 0, 1) := by decide +kernel
theorem dX1_setsWith_3 : decode cX1_setsWith 3 = .ok (.istore_n 3, 1) := by decide +kernel
theorem dX1_setsWith_4 : decode cX1_setsWith 4 = .ok (.iload_n 3, 1) := by decide +kernel
theorem dX1_setsWith_5 : decode cX1_setsWith 5 = .ok (.aload_n 0, 1) := by decide +kernel
theorem dX1_setsWith_6 : decode cX1_setsWith 6 = .ok (.getfield 9, 3) := by decide +kernel
theorem dX1_setsWith_9 : decode cX1_setsWith 9 = .ok (.if_icmp .ge 25, 3) := by decide +kernel
theorem dX1_setsWith_12 : decode cX1_setsWith 12 = .ok (.aload_n 0, 1) := by decide +kernel
theorem dX1_setsWith_13 : decode cX1_setsWith 13 = .ok (.getfield 41, 3) := by decide +kernel
theorem dX1_setsWith_16 : decode cX1_setsWith 16 = .ok (.iload_n 3, 1) := by decide +kernel
theorem dX1_setsWith_17 : decode cX1_setsWith 17 = .ok (.iaload, 1) := by decide +kernel
theorem dX1_setsWith_18 : decode cX1_setsWith 18 = .ok (.iload_n 1, 1) := by decide +kernel
theorem dX1_setsWith_19 : decode cX1_setsWith 19 = .ok (.invokestatic 94, 3) := by decide +kernel
theorem dX1_setsWith_22 : decode cX1_setsWith 22 = .ok (.ifCond .eq 6, 3) := by decide +kernel
theorem dX1_setsWith_25 : decode cX1_setsWith 25 = .ok (.iinc 2 1, 3) := by decide +kernel
theorem dX1_setsWith_28 : decode cX1_setsWith 28 = .ok (.iinc 3 1, 3) := by decide +kernel
theorem dX1_setsWith_31 : decode cX1_setsWith 31 = .ok (.goto (-27), 3) := by decide +kernel
theorem dX1_setsWith_34 : decode cX1_setsWith 34 = .ok (.iload_n 2, 1) := by decide +kernel
theorem dX1_setsWith_35 : decode cX1_setsWith 35 = .ok (.ireturn, 1) := by decide +kernel
theorem dX1_variablesUpTo_0 : decode cX1_variablesUpTo 0 = .ok (.lconst 0, 1) := by decide +kernel
theorem dX1_variablesUpTo_1 : decode cX1_variablesUpTo 1 = .ok (.lstore_n 2, 1) := by decide +kernel
theorem dX1_variablesUpTo_2 : decode cX1_variablesUpTo 2 = .ok (.iconst 0, 1) := by decide +kernel
theorem dX1_variablesUpTo_3 : decode cX1_variablesUpTo 3 = .ok (.istore 4, 2) := by decide +kernel
theorem dX1_variablesUpTo_5 : decode cX1_variablesUpTo 5 = .ok (.iload 4, 2) := by decide +kernel
theorem dX1_variablesUpTo_7 : decode cX1_variablesUpTo 7 = .ok (.aload_n 0, 1) := by decide +kernel
theorem dX1_variablesUpTo_8 : decode cX1_variablesUpTo 8 = .ok (.getfield 9, 3) := by decide +kernel
theorem dX1_variablesUpTo_11 : decode cX1_variablesUpTo 11 = .ok (.if_icmp .ge 30, 3) := by decide +kernel
theorem dX1_variablesUpTo_14 : decode cX1_variablesUpTo 14 = .ok (.aload_n 0, 1) := by decide +kernel
theorem dX1_variablesUpTo_15 : decode cX1_variablesUpTo 15 = .ok (.getfield 18, 3) := by decide +kernel
theorem dX1_variablesUpTo_18 : decode cX1_variablesUpTo 18 = .ok (.iload 4, 2) := by decide +kernel
theorem dX1_variablesUpTo_20 : decode cX1_variablesUpTo 20 = .ok (.iaload, 1) := by decide +kernel
theorem dX1_variablesUpTo_21 : decode cX1_variablesUpTo 21 = .ok (.iload_n 1, 1) := by decide +kernel
theorem dX1_variablesUpTo_22 : decode cX1_variablesUpTo 22 = .ok (.if_icmp .gt 13, 3) := by decide +kernel
theorem dX1_variablesUpTo_25 : decode cX1_variablesUpTo 25 = .ok (.lload_n 2, 1) := by decide +kernel
theorem dX1_variablesUpTo_26 : decode cX1_variablesUpTo 26 = .ok (.aload_n 0, 1) := by decide +kernel
theorem dX1_variablesUpTo_27 : decode cX1_variablesUpTo 27 = .ok (.getfield 38, 3) := by decide +kernel
theorem dX1_variablesUpTo_30 : decode cX1_variablesUpTo 30 = .ok (.iload 4, 2) := by decide +kernel
theorem dX1_variablesUpTo_32 : decode cX1_variablesUpTo 32 = .ok (.laload, 1) := by decide +kernel
theorem dX1_variablesUpTo_33 : decode cX1_variablesUpTo 33 = .ok (.lor, 1) := by decide +kernel
theorem dX1_variablesUpTo_34 : decode cX1_variablesUpTo 34 = .ok (.lstore_n 2, 1) := by decide +kernel
theorem dX1_variablesUpTo_35 : decode cX1_variablesUpTo 35 = .ok (.iinc 4 1, 3) := by decide +kernel
theorem dX1_variablesUpTo_38 : decode cX1_variablesUpTo 38 = .ok (.goto (-33), 3) := by decide +kernel
theorem dX1_variablesUpTo_41 : decode cX1_variablesUpTo 41 = .ok (.lload_n 2, 1) := by decide +kernel
theorem dX1_variablesUpTo_42 : decode cX1_variablesUpTo 42 = .ok (.lreturn, 1) := by decide +kernel
theorem dX1_atomsUpTo_0 : decode cX1_atomsUpTo 0 = .ok (.iconst 0, 1) := by decide +kernel
theorem dX1_atomsUpTo_1 : decode cX1_atomsUpTo 1 = .ok (.istore_n 2, 1) := by decide +kernel
theorem dX1_atomsUpTo_2 : decode cX1_atomsUpTo 2 = .ok (.iconst 0, 1) := by decide +kernel
theorem dX1_atomsUpTo_3 : decode cX1_atomsUpTo 3 = .ok (.istore_n 3, 1) := by decide +kernel
theorem dX1_atomsUpTo_4 : decode cX1_atomsUpTo 4 = .ok (.iload_n 3, 1) := by decide +kernel
theorem dX1_atomsUpTo_5 : decode cX1_atomsUpTo 5 = .ok (.aload_n 0, 1) := by decide +kernel
theorem dX1_atomsUpTo_6 : decode cX1_atomsUpTo 6 = .ok (.getfield 9, 3) := by decide +kernel
theorem dX1_atomsUpTo_9 : decode cX1_atomsUpTo 9 = .ok (.if_icmp .ge 28, 3) := by decide +kernel
theorem dX1_atomsUpTo_12 : decode cX1_atomsUpTo 12 = .ok (.aload_n 0, 1) := by decide +kernel
theorem dX1_atomsUpTo_13 : decode cX1_atomsUpTo 13 = .ok (.getfield 18, 3) := by decide +kernel
theorem dX1_atomsUpTo_16 : decode cX1_atomsUpTo 16 = .ok (.iload_n 3, 1) := by decide +kernel
theorem dX1_atomsUpTo_17 : decode cX1_atomsUpTo 17 = .ok (.iaload, 1) := by decide +kernel
theorem dX1_atomsUpTo_18 : decode cX1_atomsUpTo 18 = .ok (.iload_n 1, 1) := by decide +kernel
theorem dX1_atomsUpTo_19 : decode cX1_atomsUpTo 19 = .ok (.if_icmp .gt 12, 3) := by decide +kernel
theorem dX1_atomsUpTo_22 : decode cX1_atomsUpTo 22 = .ok (.iload_n 2, 1) := by decide +kernel
theorem dX1_atomsUpTo_23 : decode cX1_atomsUpTo 23 = .ok (.aload_n 0, 1) := by decide +kernel
theorem dX1_atomsUpTo_24 : decode cX1_atomsUpTo 24 = .ok (.getfield 41, 3) := by decide +kernel
theorem dX1_atomsUpTo_27 : decode cX1_atomsUpTo 27 = .ok (.iload_n 3, 1) := by decide +kernel
theorem dX1_atomsUpTo_28 : decode cX1_atomsUpTo 28 = .ok (.iaload, 1) := by decide +kernel
theorem dX1_atomsUpTo_29 : decode cX1_atomsUpTo 29 = .ok (.ior, 1) := by decide +kernel
theorem dX1_atomsUpTo_30 : decode cX1_atomsUpTo 30 = .ok (.istore_n 2, 1) := by decide +kernel
theorem dX1_atomsUpTo_31 : decode cX1_atomsUpTo 31 = .ok (.iinc 3 1, 3) := by decide +kernel
theorem dX1_atomsUpTo_34 : decode cX1_atomsUpTo 34 = .ok (.goto (-30), 3) := by decide +kernel
theorem dX1_atomsUpTo_37 : decode cX1_atomsUpTo 37 = .ok (.iconst 0, 1) := by decide +kernel
theorem dX1_atomsUpTo_38 : decode cX1_atomsUpTo 38 = .ok (.istore_n 3, 1) := by decide +kernel
theorem dX1_atomsUpTo_39 : decode cX1_atomsUpTo 39 = .ok (.iload_n 3, 1) := by decide +kernel
theorem dX1_atomsUpTo_40 : decode cX1_atomsUpTo 40 = .ok (.aload_n 0, 1) := by decide +kernel
theorem dX1_atomsUpTo_41 : decode cX1_atomsUpTo 41 = .ok (.getfield 15, 3) := by decide +kernel
theorem dX1_atomsUpTo_44 : decode cX1_atomsUpTo 44 = .ok (.if_icmp .ge 25, 3) := by decide +kernel
theorem dX1_atomsUpTo_47 : decode cX1_atomsUpTo 47 = .ok (.aload_n 0, 1) := by decide +kernel
theorem dX1_atomsUpTo_48 : decode cX1_atomsUpTo 48 = .ok (.getfield 22, 3) := by decide +kernel
theorem dX1_atomsUpTo_51 : decode cX1_atomsUpTo 51 = .ok (.iload_n 3, 1) := by decide +kernel
theorem dX1_atomsUpTo_52 : decode cX1_atomsUpTo 52 = .ok (.iaload, 1) := by decide +kernel
theorem dX1_atomsUpTo_53 : decode cX1_atomsUpTo 53 = .ok (.iload_n 1, 1) := by decide +kernel
theorem dX1_atomsUpTo_54 : decode cX1_atomsUpTo 54 = .ok (.if_icmp .gt 9, 3) := by decide +kernel
theorem dX1_atomsUpTo_57 : decode cX1_atomsUpTo 57 = .ok (.iload_n 2, 1) := by decide +kernel
theorem dX1_atomsUpTo_58 : decode cX1_atomsUpTo 58 = .ok (.iconst 1, 1) := by decide +kernel
theorem dX1_atomsUpTo_59 : decode cX1_atomsUpTo 59 = .ok (.iload_n 3, 1) := by decide +kernel
theorem dX1_atomsUpTo_60 : decode cX1_atomsUpTo 60 = .ok (.ishl, 1) := by decide +kernel
theorem dX1_atomsUpTo_61 : decode cX1_atomsUpTo 61 = .ok (.ior, 1) := by decide +kernel
theorem dX1_atomsUpTo_62 : decode cX1_atomsUpTo 62 = .ok (.istore_n 2, 1) := by decide +kernel
theorem dX1_atomsUpTo_63 : decode cX1_atomsUpTo 63 = .ok (.iinc 3 1, 3) := by decide +kernel
theorem dX1_atomsUpTo_66 : decode cX1_atomsUpTo 66 = .ok (.goto (-27), 3) := by decide +kernel
theorem dX1_atomsUpTo_69 : decode cX1_atomsUpTo 69 = .ok (.iload_n 2, 1) := by decide +kernel
theorem dX1_atomsUpTo_70 : decode cX1_atomsUpTo 70 = .ok (.ireturn, 1) := by decide +kernel
set_option maxRecDepth 20000 in
theorem ggX1_nodesAmong_X3_contains : GoodIn wsX1_nodesAmong wsX3_contains := goodIn_r _ [5] (by decide +kernel) (by decide +kernel)
set_option maxRecDepth 20000 in
theorem gX1_nodesAmong_X3_contains_n71 : GoodIn wsX1_nodesAmong (wsX3_contains) := ggX1_nodesAmong_X3_contains
set_option maxRecDepth 20000 in
theorem ggX1_nodesAmong_X3_bit : GoodIn wsX1_nodesAmong wsX3_bit := goodIn_r _ [7] (by decide +kernel) (by decide +kernel)
set_option maxRecDepth 20000 in
theorem gX1_nodesAmong_X3_bit_n50 : GoodIn wsX1_nodesAmong (wsX3_bit) := ggX1_nodesAmong_X3_bit
theorem dX1_nodesAmong_0 : decode cX1_nodesAmong 0 = .ok (.lconst 0, 1) := by decide +kernel
theorem dX1_nodesAmong_1 : decode cX1_nodesAmong 1 = .ok (.lstore_n 3, 1) := by decide +kernel
theorem dX1_nodesAmong_2 : decode cX1_nodesAmong 2 = .ok (.iconst 0, 1) := by decide +kernel
theorem dX1_nodesAmong_3 : decode cX1_nodesAmong 3 = .ok (.istore 5, 2) := by decide +kernel
theorem dX1_nodesAmong_5 : decode cX1_nodesAmong 5 = .ok (.iload 5, 2) := by decide +kernel
theorem dX1_nodesAmong_7 : decode cX1_nodesAmong 7 = .ok (.aload_n 0, 1) := by decide +kernel
theorem dX1_nodesAmong_8 : decode cX1_nodesAmong 8 = .ok (.getfield 9, 3) := by decide +kernel
theorem dX1_nodesAmong_11 : decode cX1_nodesAmong 11 = .ok (.if_icmp .ge 31, 3) := by decide +kernel
theorem dX1_nodesAmong_14 : decode cX1_nodesAmong 14 = .ok (.lload_n 1, 1) := by decide +kernel
theorem dX1_nodesAmong_15 : decode cX1_nodesAmong 15 = .ok (.iload 5, 2) := by decide +kernel
theorem dX1_nodesAmong_17 : decode cX1_nodesAmong 17 = .ok (.invokestatic 71, 3) := by decide +kernel
theorem dX1_nodesAmong_20 : decode cX1_nodesAmong 20 = .ok (.ifCond .eq 16, 3) := by decide +kernel
theorem dX1_nodesAmong_23 : decode cX1_nodesAmong 23 = .ok (.lload_n 3, 1) := by decide +kernel
theorem dX1_nodesAmong_24 : decode cX1_nodesAmong 24 = .ok (.aload_n 0, 1) := by decide +kernel
theorem dX1_nodesAmong_25 : decode cX1_nodesAmong 25 = .ok (.getfield 35, 3) := by decide +kernel
theorem dX1_nodesAmong_28 : decode cX1_nodesAmong 28 = .ok (.iload 5, 2) := by decide +kernel
theorem dX1_nodesAmong_30 : decode cX1_nodesAmong 30 = .ok (.iaload, 1) := by decide +kernel
theorem dX1_nodesAmong_31 : decode cX1_nodesAmong 31 = .ok (.invokestatic 50, 3) := by decide +kernel
theorem dX1_nodesAmong_34 : decode cX1_nodesAmong 34 = .ok (.lor, 1) := by decide +kernel
theorem dX1_nodesAmong_35 : decode cX1_nodesAmong 35 = .ok (.lstore_n 3, 1) := by decide +kernel
theorem dX1_nodesAmong_36 : decode cX1_nodesAmong 36 = .ok (.iinc 5 1, 3) := by decide +kernel
theorem dX1_nodesAmong_39 : decode cX1_nodesAmong 39 = .ok (.goto (-34), 3) := by decide +kernel
theorem dX1_nodesAmong_42 : decode cX1_nodesAmong 42 = .ok (.lload_n 3, 1) := by decide +kernel
theorem dX1_nodesAmong_43 : decode cX1_nodesAmong 43 = .ok (.lreturn, 1) := by decide +kernel
set_option maxRecDepth 20000 in
theorem ggX1_hadByNodes_X3_contains : GoodIn wsX1_hadByNodes wsX3_contains := goodIn_r _ [6] (by decide +kernel) (by decide +kernel)
set_option maxRecDepth 20000 in
theorem gX1_hadByNodes_X3_contains_n71 : GoodIn wsX1_hadByNodes (wsX3_contains) := ggX1_hadByNodes_X3_contains
theorem dX1_hadByNodes_0 : decode cX1_hadByNodes 0 = .ok (.iconst 0, 1) := by decide +kernel
theorem dX1_hadByNodes_1 : decode cX1_hadByNodes 1 = .ok (.istore_n 3, 1) := by decide +kernel
theorem dX1_hadByNodes_2 : decode cX1_hadByNodes 2 = .ok (.iconst 0, 1) := by decide +kernel
theorem dX1_hadByNodes_3 : decode cX1_hadByNodes 3 = .ok (.istore 4, 2) := by decide +kernel
theorem dX1_hadByNodes_5 : decode cX1_hadByNodes 5 = .ok (.iload 4, 2) := by decide +kernel
theorem dX1_hadByNodes_7 : decode cX1_hadByNodes 7 = .ok (.aload_n 0, 1) := by decide +kernel
theorem dX1_hadByNodes_8 : decode cX1_hadByNodes 8 = .ok (.getfield 9, 3) := by decide +kernel
theorem dX1_hadByNodes_11 : decode cX1_hadByNodes 11 = .ok (.if_icmp .ge 33, 3) := by decide +kernel
theorem dX1_hadByNodes_14 : decode cX1_hadByNodes 14 = .ok (.lload_n 1, 1) := by decide +kernel
theorem dX1_hadByNodes_15 : decode cX1_hadByNodes 15 = .ok (.aload_n 0, 1) := by decide +kernel
theorem dX1_hadByNodes_16 : decode cX1_hadByNodes 16 = .ok (.getfield 35, 3) := by decide +kernel
theorem dX1_hadByNodes_19 : decode cX1_hadByNodes 19 = .ok (.iload 4, 2) := by decide +kernel
theorem dX1_hadByNodes_21 : decode cX1_hadByNodes 21 = .ok (.iaload, 1) := by decide +kernel
theorem dX1_hadByNodes_22 : decode cX1_hadByNodes 22 = .ok (.invokestatic 71, 3) := by decide +kernel
theorem dX1_hadByNodes_25 : decode cX1_hadByNodes 25 = .ok (.ifCond .eq 13, 3) := by decide +kernel
theorem dX1_hadByNodes_28 : decode cX1_hadByNodes 28 = .ok (.iload_n 3, 1) := by decide +kernel
theorem dX1_hadByNodes_29 : decode cX1_hadByNodes 29 = .ok (.aload_n 0, 1) := by decide +kernel
theorem dX1_hadByNodes_30 : decode cX1_hadByNodes 30 = .ok (.getfield 25, 3) := by decide +kernel
theorem dX1_hadByNodes_33 : decode cX1_hadByNodes 33 = .ok (.iload 4, 2) := by decide +kernel
theorem dX1_hadByNodes_35 : decode cX1_hadByNodes 35 = .ok (.iaload, 1) := by decide +kernel
theorem dX1_hadByNodes_36 : decode cX1_hadByNodes 36 = .ok (.ior, 1) := by decide +kernel
theorem dX1_hadByNodes_37 : decode cX1_hadByNodes 37 = .ok (.istore_n 3, 1) := by decide +kernel
theorem dX1_hadByNodes_38 : decode cX1_hadByNodes 38 = .ok (.iinc 4 1, 3) := by decide +kernel
theorem dX1_hadByNodes_41 : decode cX1_hadByNodes 41 = .ok (.goto (-36), 3) := by decide +kernel
theorem dX1_hadByNodes_44 : decode cX1_hadByNodes 44 = .ok (.iload_n 3, 1) := by decide +kernel
theorem dX1_hadByNodes_45 : decode cX1_hadByNodes 45 = .ok (.ireturn, 1) := by decide +kernel
set_option maxRecDepth 20000 in
theorem ggX1_nodesIncludedByNode_X1_nodesAmong : GoodIn wsX1_nodesIncludedByNode wsX1_nodesAmong := goodIn_r _ [8, 1, 2, 9, 10, 11, 12, 13, 14, 15, 16, 17, 18, 19, 20, 21, 22, 23] (by decide +kernel) (by decide +kernel)
set_option maxRecDepth 20000 in
theorem gX1_nodesIncludedByNode_X1_nodesAmong : GoodIn wsX1_nodesIncludedByNode (wsV RX1 97 RX1 yX1_nodesAmong wsX1_nodesAmong) := goodIn_app (goodIn_of _ (by decide +kernel)) ggX1_nodesIncludedByNode_X1_nodesAmong
theorem dX1_nodesIncludedByNode_0 : decode cX1_nodesIncludedByNode 0 = .ok (.lconst 0, 1) := by decide +kernel
theorem dX1_nodesIncludedByNode_1 : decode cX1_nodesIncludedByNode 1 = .ok (.lstore_n 2, 1) := by decide +kernel
theorem dX1_nodesIncludedByNode_2 : decode cX1_nodesIncludedByNode 2 = .ok (.iconst 0, 1) := by decide +kernel
theorem dX1_nodesIncludedByNode_3 : decode cX1_nodesIncludedByNode 3 = .ok (.istore 4, 2) := by decide +kernel
theorem dX1_nodesIncludedByNode_5 : decode cX1_nodesIncludedByNode 5 = .ok (.iload 4, 2) := by decide +kernel
theorem dX1_nodesIncludedByNode_7 : decode cX1_nodesIncludedByNode 7 = .ok (.aload_n 0, 1) := by decide +kernel
theorem dX1_nodesIncludedByNode_8 : decode cX1_nodesIncludedByNode 8 = .ok (.getfield 9, 3) := by decide +kernel
theorem dX1_nodesIncludedByNode_11 : decode cX1_nodesIncludedByNode 11 = .ok (.if_icmp .ge 30, 3) := by decide +kernel
theorem dX1_nodesIncludedByNode_14 : decode cX1_nodesIncludedByNode 14 = .ok (.aload_n 0, 1) := by decide +kernel
theorem dX1_nodesIncludedByNode_15 : decode cX1_nodesIncludedByNode 15 = .ok (.getfield 35, 3) := by decide +kernel
theorem dX1_nodesIncludedByNode_18 : decode cX1_nodesIncludedByNode 18 = .ok (.iload 4, 2) := by decide +kernel
theorem dX1_nodesIncludedByNode_20 : decode cX1_nodesIncludedByNode 20 = .ok (.iaload, 1) := by decide +kernel
theorem dX1_nodesIncludedByNode_21 : decode cX1_nodesIncludedByNode 21 = .ok (.iload_n 1, 1) := by decide +kernel
theorem dX1_nodesIncludedByNode_22 : decode cX1_nodesIncludedByNode 22 = .ok (.if_icmp .ne 13, 3) := by decide +kernel
theorem dX1_nodesIncludedByNode_25 : decode cX1_nodesIncludedByNode 25 = .ok (.lload_n 2, 1) := by decide +kernel
theorem dX1_nodesIncludedByNode_26 : decode cX1_nodesIncludedByNode 26 = .ok (.aload_n 0, 1) := by decide +kernel
theorem dX1_nodesIncludedByNode_27 : decode cX1_nodesIncludedByNode 27 = .ok (.getfield 28, 3) := by decide +kernel
theorem dX1_nodesIncludedByNode_30 : decode cX1_nodesIncludedByNode 30 = .ok (.iload 4, 2) := by decide +kernel
theorem dX1_nodesIncludedByNode_32 : decode cX1_nodesIncludedByNode 32 = .ok (.laload, 1) := by decide +kernel
theorem dX1_nodesIncludedByNode_33 : decode cX1_nodesIncludedByNode 33 = .ok (.lor, 1) := by decide +kernel
theorem dX1_nodesIncludedByNode_34 : decode cX1_nodesIncludedByNode 34 = .ok (.lstore_n 2, 1) := by decide +kernel
theorem dX1_nodesIncludedByNode_35 : decode cX1_nodesIncludedByNode 35 = .ok (.iinc 4 1, 3) := by decide +kernel
theorem dX1_nodesIncludedByNode_38 : decode cX1_nodesIncludedByNode 38 = .ok (.goto (-33), 3) := by decide +kernel
theorem dX1_nodesIncludedByNode_41 : decode cX1_nodesIncludedByNode 41 = .ok (.aload_n 0, 1) := by decide +kernel
theorem dX1_nodesIncludedByNode_42 : decode cX1_nodesIncludedByNode 42 = .ok (.lload_n 2, 1) := by decide +kernel
theorem dX1_nodesIncludedByNode_43 : decode cX1_nodesIncludedByNode 43 = .ok (.invokevirtual 97, 3) := by decide +kernel
theorem dX1_nodesIncludedByNode_46 : decode cX1_nodesIncludedByNode 46 = .ok (.lreturn, 1) := by decide +kernel
set_option maxRecDepth 20000 in
theorem ggX1_holdersOf_X3_containsAtom : GoodIn wsX1_holdersOf wsX3_containsAtom := goodIn_r _ [5] (by decide +kernel) (by decide +kernel)
set_option maxRecDepth 20000 in
theorem gX1_holdersOf_X3_containsAtom_n94 : GoodIn wsX1_holdersOf (wsX3_containsAtom) := ggX1_holdersOf_X3_containsAtom
set_option maxRecDepth 20000 in
theorem ggX1_holdersOf_X3_bit : GoodIn wsX1_holdersOf wsX3_bit := goodIn_r _ [7] (by decide +kernel) (by decide +kernel)
set_option maxRecDepth 20000 in
theorem gX1_holdersOf_X3_bit_n50 : GoodIn wsX1_holdersOf (wsX3_bit) := ggX1_holdersOf_X3_bit
theorem dX1_holdersOf_0 : decode cX1_holdersOf 0 = .ok (.lconst 0, 1) := by decide +kernel
theorem dX1_holdersOf_1 : decode cX1_holdersOf 1 = .ok (.lstore_n 2, 1) := by decide +kernel
theorem dX1_holdersOf_2 : decode cX1_holdersOf 2 = .ok (.iconst 0, 1) := by decide +kernel
theorem dX1_holdersOf_3 : decode cX1_holdersOf 3 = .ok (.istore 4, 2) := by decide +kernel
theorem dX1_holdersOf_5 : decode cX1_holdersOf 5 = .ok (.iload 4, 2) := by decide +kernel
theorem dX1_holdersOf_7 : decode cX1_holdersOf 7 = .ok (.aload_n 0, 1) := by decide +kernel
theorem dX1_holdersOf_8 : decode cX1_holdersOf 8 = .ok (.getfield 9, 3) := by decide +kernel
theorem dX1_holdersOf_11 : decode cX1_holdersOf 11 = .ok (.if_icmp .ge 31, 3) := by decide +kernel
theorem dX1_holdersOf_14 : decode cX1_holdersOf 14 = .ok (.aload_n 0, 1) := by decide +kernel
theorem dX1_holdersOf_15 : decode cX1_holdersOf 15 = .ok (.getfield 25, 3) := by decide +kernel
theorem dX1_holdersOf_18 : decode cX1_holdersOf 18 = .ok (.iload 4, 2) := by decide +kernel
theorem dX1_holdersOf_20 : decode cX1_holdersOf 20 = .ok (.iaload, 1) := by decide +kernel
theorem dX1_holdersOf_21 : decode cX1_holdersOf 21 = .ok (.iload_n 1, 1) := by decide +kernel
theorem dX1_holdersOf_22 : decode cX1_holdersOf 22 = .ok (.invokestatic 94, 3) := by decide +kernel
theorem dX1_holdersOf_25 : decode cX1_holdersOf 25 = .ok (.ifCond .eq 11, 3) := by decide +kernel
theorem dX1_holdersOf_28 : decode cX1_holdersOf 28 = .ok (.lload_n 2, 1) := by decide +kernel
theorem dX1_holdersOf_29 : decode cX1_holdersOf 29 = .ok (.iload 4, 2) := by decide +kernel
theorem dX1_holdersOf_31 : decode cX1_holdersOf 31 = .ok (.invokestatic 50, 3) := by decide +kernel
theorem dX1_holdersOf_34 : decode cX1_holdersOf 34 = .ok (.lor, 1) := by decide +kernel
theorem dX1_holdersOf_35 : decode cX1_holdersOf 35 = .ok (.lstore_n 2, 1) := by decide +kernel
theorem dX1_holdersOf_36 : decode cX1_holdersOf 36 = .ok (.iinc 4 1, 3) := by decide +kernel
theorem dX1_holdersOf_39 : decode cX1_holdersOf 39 = .ok (.goto (-34), 3) := by decide +kernel
theorem dX1_holdersOf_42 : decode cX1_holdersOf 42 = .ok (.lload_n 2, 1) := by decide +kernel
theorem dX1_holdersOf_43 : decode cX1_holdersOf 43 = .ok (.lreturn, 1) := by decide +kernel
theorem dX1_nextOf_0 : decode cX1_nextOf 0 = .ok (.aload_n 0, 1) := by decide +kernel
theorem dX1_nextOf_1 : decode cX1_nextOf 1 = .ok (.getfield 28, 3) := by decide +kernel
theorem dX1_nextOf_4 : decode cX1_nextOf 4 = .ok (.iload_n 1, 1) := by decide +kernel
theorem dX1_nextOf_5 : decode cX1_nextOf 5 = .ok (.laload, 1) := by decide +kernel
theorem dX1_nextOf_6 : decode cX1_nextOf 6 = .ok (.aload_n 0, 1) := by decide +kernel
theorem dX1_nextOf_7 : decode cX1_nextOf 7 = .ok (.getfield 32, 3) := by decide +kernel
theorem dX1_nextOf_10 : decode cX1_nextOf 10 = .ok (.iload_n 1, 1) := by decide +kernel
theorem dX1_nextOf_11 : decode cX1_nextOf 11 = .ok (.laload, 1) := by decide +kernel
theorem dX1_nextOf_12 : decode cX1_nextOf 12 = .ok (.lor, 1) := by decide +kernel
theorem dX1_nextOf_13 : decode cX1_nextOf 13 = .ok (.lreturn, 1) := by decide +kernel
set_option maxRecDepth 20000 in
theorem ggX1_leadingTo_X1_nextOf : GoodIn wsX1_leadingTo wsX1_nextOf := goodIn_r _ [6, 7, 8, 12, 13, 14, 15, 16, 17, 18, 19, 20, 21] (by decide +kernel) (by decide +kernel)
set_option maxRecDepth 20000 in
theorem gX1_leadingTo_X1_nextOf : GoodIn wsX1_leadingTo (wsV RX1 101 RX1 yX1_nextOf wsX1_nextOf) := goodIn_app (goodIn_of _ (by decide +kernel)) ggX1_leadingTo_X1_nextOf
set_option maxRecDepth 20000 in
theorem ggX1_leadingTo_X3_bit : GoodIn wsX1_leadingTo wsX3_bit := goodIn_r _ [11] (by decide +kernel) (by decide +kernel)
set_option maxRecDepth 20000 in
theorem gX1_leadingTo_X3_bit_n50 : GoodIn wsX1_leadingTo (wsX3_bit) := ggX1_leadingTo_X3_bit
theorem dX1_leadingTo_0 : decode cX1_leadingTo 0 = .ok (.lconst 0, 1) := by decide +kernel
theorem dX1_leadingTo_1 : decode cX1_leadingTo 1 = .ok (.lstore_n 3, 1) := by decide +kernel
theorem dX1_leadingTo_2 : decode cX1_leadingTo 2 = .ok (.iconst 0, 1) := by decide +kernel
theorem dX1_leadingTo_3 : decode cX1_leadingTo 3 = .ok (.istore 5, 2) := by decide +kernel
theorem dX1_leadingTo_5 : decode cX1_leadingTo 5 = .ok (.iload 5, 2) := by decide +kernel
theorem dX1_leadingTo_7 : decode cX1_leadingTo 7 = .ok (.aload_n 0, 1) := by decide +kernel
theorem dX1_leadingTo_8 : decode cX1_leadingTo 8 = .ok (.getfield 9, 3) := by decide +kernel
theorem dX1_leadingTo_11 : decode cX1_leadingTo 11 = .ok (.if_icmp .ge 30, 3) := by decide +kernel
theorem dX1_leadingTo_14 : decode cX1_leadingTo 14 = .ok (.aload_n 0, 1) := by decide +kernel
theorem dX1_leadingTo_15 : decode cX1_leadingTo 15 = .ok (.iload 5, 2) := by decide +kernel
theorem dX1_leadingTo_17 : decode cX1_leadingTo 17 = .ok (.invokevirtual 101, 3) := by decide +kernel
theorem dX1_leadingTo_20 : decode cX1_leadingTo 20 = .ok (.lload_n 1, 1) := by decide +kernel
theorem dX1_leadingTo_21 : decode cX1_leadingTo 21 = .ok (.land, 1) := by decide +kernel
theorem dX1_leadingTo_22 : decode cX1_leadingTo 22 = .ok (.lconst 0, 1) := by decide +kernel
theorem dX1_leadingTo_23 : decode cX1_leadingTo 23 = .ok (.lcmp, 1) := by decide +kernel
theorem dX1_leadingTo_24 : decode cX1_leadingTo 24 = .ok (.ifCond .eq 11, 3) := by decide +kernel
theorem dX1_leadingTo_27 : decode cX1_leadingTo 27 = .ok (.lload_n 3, 1) := by decide +kernel
theorem dX1_leadingTo_28 : decode cX1_leadingTo 28 = .ok (.iload 5, 2) := by decide +kernel
theorem dX1_leadingTo_30 : decode cX1_leadingTo 30 = .ok (.invokestatic 50, 3) := by decide +kernel
theorem dX1_leadingTo_33 : decode cX1_leadingTo 33 = .ok (.lor, 1) := by decide +kernel
theorem dX1_leadingTo_34 : decode cX1_leadingTo 34 = .ok (.lstore_n 3, 1) := by decide +kernel
theorem dX1_leadingTo_35 : decode cX1_leadingTo 35 = .ok (.iinc 5 1, 3) := by decide +kernel
theorem dX1_leadingTo_38 : decode cX1_leadingTo 38 = .ok (.goto (-33), 3) := by decide +kernel
theorem dX1_leadingTo_41 : decode cX1_leadingTo 41 = .ok (.lload_n 3, 1) := by decide +kernel
theorem dX1_leadingTo_42 : decode cX1_leadingTo 42 = .ok (.lreturn, 1) := by decide +kernel
theorem dX2_init_0 : decode cX2_init 0 = .ok (.aload_n 0, 1) := by decide +kernel
theorem dX2_init_1 : decode cX2_init 1 = .ok (.invokespecial 3, 3) := by decide +kernel
theorem dX2_init_4 : decode cX2_init 4 = .ok (.aload_n 0, 1) := by decide +kernel
theorem dX2_init_5 : decode cX2_init 5 = .ok (.bipush 60, 2) := by decide +kernel
theorem dX2_init_7 : decode cX2_init 7 = .ok (.newarray .long, 2) := by decide +kernel
theorem dX2_init_9 : decode cX2_init 9 = .ok (.putfield 9, 3) := by decide +kernel
theorem dX2_init_12 : decode cX2_init 12 = .ok (.return_, 1) := by decide +kernel
set_option maxRecDepth 20000 in
theorem ggX2_lengthFrom_X3_containsAtom : GoodIn wsX2_lengthFrom wsX3_containsAtom := goodIn_r _ [5] (by decide +kernel) (by decide +kernel)
set_option maxRecDepth 20000 in
theorem gX2_lengthFrom_X3_containsAtom_n21 : GoodIn wsX2_lengthFrom (wsX3_containsAtom) := ggX2_lengthFrom_X3_containsAtom
set_option maxRecDepth 20000 in
theorem ggX2_lengthFrom_X1_holdersOf : GoodIn wsX2_lengthFrom wsX1_holdersOf := goodIn_r _ [10, 11, 12, 3, 4, 5, 13, 14, 27, 28, 29, 30, 31, 32, 33, 34, 35, 36] (by decide +kernel) (by decide +kernel)
set_option maxRecDepth 20000 in
theorem gX2_lengthFrom_X1_holdersOf : GoodIn wsX2_lengthFrom (wsV RX2 25 RX1 yX1_holdersOf wsX1_holdersOf) := goodIn_app (goodIn_of _ (by decide +kernel)) ggX2_lengthFrom_X1_holdersOf
set_option maxRecDepth 20000 in
theorem ggX2_lengthFrom_X3_contains : GoodIn wsX2_lengthFrom wsX3_contains := goodIn_r _ [16] (by decide +kernel) (by decide +kernel)
set_option maxRecDepth 20000 in
theorem gX2_lengthFrom_X3_contains_n29 : GoodIn wsX2_lengthFrom (wsX3_contains) := ggX2_lengthFrom_X3_contains
set_option maxRecDepth 20000 in
theorem ggX2_lengthFrom_X1_leadingTo : GoodIn wsX2_lengthFrom wsX1_leadingTo := goodIn_r _ [20, 11, 21, 22, 23, 9, 24, 25, 26, 13, 4, 14, 27, 28, 29, 30, 31, 32, 33, 34, 35, 36] (by decide +kernel) (by decide +kernel)
set_option maxRecDepth 20000 in
theorem gX2_lengthFrom_X1_leadingTo : GoodIn wsX2_lengthFrom (wsV RX2 33 RX1 yX1_leadingTo wsX1_leadingTo) := goodIn_app (goodIn_of _ (by decide +kernel)) ggX2_lengthFrom_X1_leadingTo
theorem dX2_lengthFrom_0 : decode cX2_lengthFrom 0 = .ok (.aload_n 1, 1) := by decide +kernel
theorem dX2_lengthFrom_1 : decode cX2_lengthFrom 1 = .ok (.getfield 15, 3) := by decide +kernel
theorem dX2_lengthFrom_4 : decode cX2_lengthFrom 4 = .ok (.iload_n 2, 1) := by decide +kernel
theorem dX2_lengthFrom_5 : decode cX2_lengthFrom 5 = .ok (.iaload, 1) := by decide +kernel
theorem dX2_lengthFrom_6 : decode cX2_lengthFrom 6 = .ok (.iload_n 3, 1) := by decide +kernel
