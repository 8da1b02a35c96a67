set_option maxRecDepth 20000 in
theorem ggX6_init_X6_at : GoodIn wsX6_init wsX6_at := goodIn_r _ [20] (by decide +kernel) (by decide +kernel)
set_option maxRecDepth 20000 in
theorem gX6_init_X6_at : GoodIn wsX6_init (va_wsS RX6 44 yX6_at wsX6_at) := goodIn_app (goodIn_of _ (by decide +kernel)) ggX6_init_X6_at
set_option maxRecDepth 20000 in
theorem ggX6_init_X6_save : GoodIn wsX6_init wsX6_save := goodIn_r _ [24, 5, 25, 26, 27, 28, 29, 30, 31, 32, 33, 34, 35, 36] (by decide +kernel) (by decide +kernel)
set_option maxRecDepth 20000 in
theorem gX6_init_X6_save : GoodIn wsX6_init (wsV RX6 48 RX6 yX6_save wsX6_save) := goodIn_app (goodIn_of _ (by decide +kernel)) ggX6_init_X6_save
theorem dX6_init_0 : decode cX6_init 0 = .ok (.aload_n 0, 1) := by decide +kernel
theorem dX6_init_1 : decode cX6_init 1 = .ok (.invokespecial 1, 3) := by decide +kernel
theorem dX6_init_4 : decode cX6_init 4 = .ok (.aload_n 0, 1) := by decide +kernel
theorem dX6_init_5 : decode cX6_init 5 = .ok (.bipush 74, 2) := by decide +kernel
theorem dX6_init_7 : decode cX6_init 7 = .ok (.newarray .int, 2) := by decide +kernel
theorem dX6_init_9 : decode cX6_init 9 = .ok (.putfield 7, 3) := by decide +kernel
theorem dX6_init_12 : decode cX6_init 12 = .ok (.aload_n 0, 1) := by decide +kernel
theorem dX6_init_13 : decode cX6_init 13 = .ok (.sipush 296, 3) := by decide +kernel
theorem dX6_init_16 : decode cX6_init 16 = .ok (.newarray .int, 2) := by decide +kernel
theorem dX6_init_18 : decode cX6_init 18 = .ok (.putfield 13, 3) := by decide +kernel
theorem dX6_init_21 : decode cX6_init 21 = .ok (.aload_n 0, 1) := by decide +kernel
theorem dX6_init_22 : decode cX6_init 22 = .ok (.bipush 6, 2) := by decide +kernel
theorem dX6_init_24 : decode cX6_init 24 = .ok (.newarray .int, 2) := by decide +kernel
theorem dX6_init_26 : decode cX6_init 26 = .ok (.putfield 16, 3) := by decide +kernel
theorem dX6_init_29 : decode cX6_init 29 = .ok (.aload_n 0, 1) := by decide +kernel
theorem dX6_init_30 : decode cX6_init 30 = .ok (.bipush 6, 2) := by decide +kernel
theorem dX6_init_32 : decode cX6_init 32 = .ok (.newarray .int, 2) := by decide +kernel
theorem dX6_init_34 : decode cX6_init 34 = .ok (.putfield 19, 3) := by decide +kernel
theorem dX6_init_37 : decode cX6_init 37 = .ok (.aload_n 0, 1) := by decide +kernel
theorem dX6_init_38 : decode cX6_init 38 = .ok (.bipush 6, 2) := by decide +kernel
theorem dX6_init_40 : decode cX6_init 40 = .ok (.newarray .long, 2) := by decide +kernel
theorem dX6_init_42 : decode cX6_init 42 = .ok (.putfield 22, 3) := by decide +kernel
theorem dX6_init_45 : decode cX6_init 45 = .ok (.aload_n 0, 1) := by decide +kernel
theorem dX6_init_46 : decode cX6_init 46 = .ok (.bipush 6, 2) := by decide +kernel
theorem dX6_init_48 : decode cX6_init 48 = .ok (.newarray .long, 2) := by decide +kernel
theorem dX6_init_50 : decode cX6_init 50 = .ok (.putfield 26, 3) := by decide +kernel
theorem dX6_init_53 : decode cX6_init 53 = .ok (.aload_n 0, 1) := by decide +kernel
theorem dX6_init_54 : decode cX6_init 54 = .ok (.bipush 9, 2) := by decide +kernel
theorem dX6_init_56 : decode cX6_init 56 = .ok (.newarray .long, 2) := by decide +kernel
theorem dX6_init_58 : decode cX6_init 58 = .ok (.putfield 29, 3) := by decide +kernel
theorem dX6_init_61 : decode cX6_init 61 = .ok (.aload_n 0, 1) := by decide +kernel
theorem dX6_init_62 : decode cX6_init 62 = .ok (.bipush 36, 2) := by decide +kernel
theorem dX6_init_64 : decode cX6_init 64 = .ok (.newarray .long, 2) := by decide +kernel
theorem dX6_init_66 : decode cX6_init 66 = .ok (.putfield 32, 3) := by decide +kernel
theorem dX6_init_69 : decode cX6_init 69 = .ok (.aload_n 0, 1) := by decide +kernel
theorem dX6_init_70 : decode cX6_init 70 = .ok (.bipush 64, 2) := by decide +kernel
theorem dX6_init_72 : decode cX6_init 72 = .ok (.newarray .long, 2) := by decide +kernel
theorem dX6_init_74 : decode cX6_init 74 = .ok (.putfield 35, 3) := by decide +kernel
theorem dX6_init_77 : decode cX6_init 77 = .ok (.aload_n 0, 1) := by decide +kernel
theorem dX6_init_78 : decode cX6_init 78 = .ok (.bipush 36, 2) := by decide +kernel
theorem dX6_init_80 : decode cX6_init 80 = .ok (.newarray .long, 2) := by decide +kernel
theorem dX6_init_82 : decode cX6_init 82 = .ok (.putfield 38, 3) := by decide +kernel
theorem dX6_init_85 : decode cX6_init 85 = .ok (.aload_n 0, 1) := by decide +kernel
theorem dX6_init_86 : decode cX6_init 86 = .ok (.bipush 12, 2) := by decide +kernel
theorem dX6_init_88 : decode cX6_init 88 = .ok (.newarray .long, 2) := by decide +kernel
theorem dX6_init_90 : decode cX6_init 90 = .ok (.putfield 41, 3) := by decide +kernel
theorem dX6_init_93 : decode cX6_init 93 = .ok (.aload_n 0, 1) := by decide +kernel
theorem dX6_init_94 : decode cX6_init 94 = .ok (.getfield 7, 3) := by decide +kernel
theorem dX6_init_97 : decode cX6_init 97 = .ok (.iconst 0, 1) := by decide +kernel
theorem dX6_init_98 : decode cX6_init 98 = .ok (.iconst 2, 1) := by decide +kernel
theorem dX6_init_99 : decode cX6_init 99 = .ok (.iastore, 1) := by decide +kernel
theorem dX6_init_100 : decode cX6_init 100 = .ok (.aload_n 0, 1) := by decide +kernel
theorem dX6_init_101 : decode cX6_init 101 = .ok (.getfield 7, 3) := by decide +kernel
theorem dX6_init_104 : decode cX6_init 104 = .ok (.iconst 0, 1) := by decide +kernel
theorem dX6_init_105 : decode cX6_init 105 = .ok (.iconst 0, 1) := by decide +kernel
theorem dX6_init_106 : decode cX6_init 106 = .ok (.invokestatic 44, 3) := by decide +kernel
theorem dX6_init_109 : decode cX6_init 109 = .ok (.iconst 1, 1) := by decide +kernel
theorem dX6_init_110 : decode cX6_init 110 = .ok (.iastore, 1) := by decide +kernel
theorem dX6_init_111 : decode cX6_init 111 = .ok (.aload_n 0, 1) := by decide +kernel
theorem dX6_init_112 : decode cX6_init 112 = .ok (.getfield 7, 3) := by decide +kernel
theorem dX6_init_115 : decode cX6_init 115 = .ok (.iconst 0, 1) := by decide +kernel
theorem dX6_init_116 : decode cX6_init 116 = .ok (.iconst 1, 1) := by decide +kernel
theorem dX6_init_117 : decode cX6_init 117 = .ok (.invokestatic 44, 3) := by decide +kernel
theorem dX6_init_120 : decode cX6_init 120 = .ok (.iconst 1, 1) := by decide +kernel
theorem dX6_init_121 : decode cX6_init 121 = .ok (.iastore, 1) := by decide +kernel
theorem dX6_init_122 : decode cX6_init 122 = .ok (.aload_n 0, 1) := by decide +kernel
theorem dX6_init_123 : decode cX6_init 123 = .ok (.getfield 7, 3) := by decide +kernel
theorem dX6_init_126 : decode cX6_init 126 = .ok (.iconst 1, 1) := by decide +kernel
theorem dX6_init_127 : decode cX6_init 127 = .ok (.iconst 0, 1) := by decide +kernel
theorem dX6_init_128 : decode cX6_init 128 = .ok (.invokestatic 44, 3) := by decide +kernel
theorem dX6_init_131 : decode cX6_init 131 = .ok (.iconst 1, 1) := by decide +kernel
theorem dX6_init_132 : decode cX6_init 132 = .ok (.iastore, 1) := by decide +kernel
theorem dX6_init_133 : decode cX6_init 133 = .ok (.aload_n 0, 1) := by decide +kernel
theorem dX6_init_134 : decode cX6_init 134 = .ok (.getfield 7, 3) := by decide +kernel
theorem dX6_init_137 : decode cX6_init 137 = .ok (.iconst 1, 1) := by decide +kernel
theorem dX6_init_138 : decode cX6_init 138 = .ok (.iconst 1, 1) := by decide +kernel
theorem dX6_init_139 : decode cX6_init 139 = .ok (.invokestatic 44, 3) := by decide +kernel
theorem dX6_init_142 : decode cX6_init 142 = .ok (.iconst 1, 1) := by decide +kernel
theorem dX6_init_143 : decode cX6_init 143 = .ok (.iastore, 1) := by decide +kernel
theorem dX6_init_144 : decode cX6_init 144 = .ok (.aload_n 0, 1) := by decide +kernel
theorem dX6_init_145 : decode cX6_init 145 = .ok (.invokevirtual 48, 3) := by decide +kernel
theorem dX6_init_148 : decode cX6_init 148 = .ok (.pop, 1) := by decide +kernel
theorem dX6_init_149 : decode cX6_init 149 = .ok (.return_, 1) := by decide +kernel
theorem dX6_in_0 : decode cX6_in 0 = .ok (.lload_n 0, 1) := by decide +kernel
theorem dX6_in_1 : decode cX6_in 1 = .ok (.lload_n 2, 1) := by decide +kernel
theorem dX6_in_2 : decode cX6_in 2 = .ok (.lcmp, 1) := by decide +kernel
theorem dX6_in_3 : decode cX6_in 3 = .ok (.ifCond .lt 14, 3) := by decide +kernel
theorem dX6_in_6 : decode cX6_in 6 = .ok (.lload_n 0, 1) := by decide +kernel
theorem dX6_in_7 : decode cX6_in 7 = .ok (.lload 4, 2) := by decide +kernel
theorem dX6_in_9 : decode cX6_in 9 = .ok (.lcmp, 1) := by decide +kernel
theorem dX6_in_10 : decode cX6_in 10 = .ok (.ifCond .gt 7, 3) := by decide +kernel
theorem dX6_in_13 : decode cX6_in 13 = .ok (.iconst 1, 1) := by decide +kernel
theorem dX6_in_14 : decode cX6_in 14 = .ok (.goto 4, 3) := by decide +kernel
theorem dX6_in_17 : decode cX6_in 17 = .ok (.iconst 0, 1) := by decide +kernel
theorem dX6_in_18 : decode cX6_in 18 = .ok (.ireturn, 1) := by decide +kernel
theorem dX6_at_0 : decode cX6_at 0 = .ok (.iconst 1, 1) := by decide +kernel
theorem dX6_at_1 : decode cX6_at 1 = .ok (.bipush 6, 2) := by decide +kernel
theorem dX6_at_3 : decode cX6_at 3 = .ok (.iload_n 0, 1) := by decide +kernel
theorem dX6_at_4 : decode cX6_at 4 = .ok (.imul, 1) := by decide +kernel
theorem dX6_at_5 : decode cX6_at 5 = .ok (.iadd, 1) := by decide +kernel
theorem dX6_at_6 : decode cX6_at 6 = .ok (.iload_n 1, 1) := by decide +kernel
theorem dX6_at_7 : decode cX6_at 7 = .ok (.iadd, 1) := by decide +kernel
theorem dX6_at_8 : decode cX6_at 8 = .ok (.ireturn, 1) := by decide +kernel
set_option maxRecDepth 20000 in
theorem ggX6_isState_X6_in : GoodIn wsX6_isState wsX6_in := goodIn_r _ [5] (by decide +kernel) (by decide +kernel)
set_option maxRecDepth 20000 in
theorem gX6_isState_X6_in : GoodIn wsX6_isState (va_wsS RX6 52 yX6_in wsX6_in) := goodIn_app (goodIn_of _ (by decide +kernel)) ggX6_isState_X6_in
theorem dX6_isState_0 : decode cX6_isState 0 = .ok (.iload_n 1, 1) := by decide +kernel
theorem dX6_isState_1 : decode cX6_isState 1 = .ok (.i2l, 1) := by decide +kernel
theorem dX6_isState_2 : decode cX6_isState 2 = .ok (.lconst 0, 1) := by decide +kernel
theorem dX6_isState_3 : decode cX6_isState 3 = .ok (.aload_n 0, 1) := by decide +kernel
theorem dX6_isState_4 : decode cX6_isState 4 = .ok (.getfield 7, 3) := by decide +kernel
theorem dX6_isState_7 : decode cX6_isState 7 = .ok (.iconst 0, 1) := by decide +kernel
theorem dX6_isState_8 : decode cX6_isState 8 = .ok (.iaload, 1) := by decide +kernel
theorem dX6_isState_9 : decode cX6_isState 9 = .ok (.iconst 1, 1) := by decide +kernel
theorem dX6_isState_10 : decode cX6_isState 10 = .ok (.isub, 1) := by decide +kernel
theorem dX6_isState_11 : decode cX6_isState 11 = .ok (.i2l, 1) := by decide +kernel
theorem dX6_isState_12 : decode cX6_isState 12 = .ok (.invokestatic 52, 3) := by decide +kernel
theorem dX6_isState_15 : decode cX6_isState 15 = .ok (.ireturn, 1) := by decide +kernel
theorem dX6_keeps_0 : decode cX6_keeps 0 = .ok (.aload_n 0, 1) := by decide +kernel
theorem dX6_keeps_1 : decode cX6_keeps 1 = .ok (.getfield 56, 3) := by decide +kernel
theorem dX6_keeps_4 : decode cX6_keeps 4 = .ok (.iconst 4, 1) := by decide +kernel
theorem dX6_keeps_5 : decode cX6_keeps 5 = .ok (.if_icmp .ne 43, 3) := by decide +kernel
theorem dX6_keeps_8 : decode cX6_keeps 8 = .ok (.iconst 0, 1) := by decide +kernel
theorem dX6_keeps_9 : decode cX6_keeps 9 = .ok (.istore_n 1, 1) := by decide +kernel
theorem dX6_keeps_10 : decode cX6_keeps 10 = .ok (.iload_n 1, 1) := by decide +kernel
theorem dX6_keeps_11 : decode cX6_keeps 11 = .ok (.sipush 222, 3) := by decide +kernel
theorem dX6_keeps_14 : decode cX6_keeps 14 = .ok (.if_icmp .ge 24, 3) := by decide +kernel
theorem dX6_keeps_17 : decode cX6_keeps 17 = .ok (.aload_n 0, 1) := by decide +kernel
theorem dX6_keeps_18 : decode cX6_keeps 18 = .ok (.getfield 13, 3) := by decide +kernel
theorem dX6_keeps_21 : decode cX6_keeps 21 = .ok (.iload_n 1, 1) := by decide +kernel
theorem dX6_keeps_22 : decode cX6_keeps 22 = .ok (.aload_n 0, 1) := by decide +kernel
theorem dX6_keeps_23 : decode cX6_keeps 23 = .ok (.getfield 13, 3) := by decide +kernel
theorem dX6_keeps_26 : decode cX6_keeps 26 = .ok (.bipush 74, 2) := by decide +kernel
theorem dX6_keeps_28 : decode cX6_keeps 28 = .ok (.iload_n 1, 1) := by decide +kernel
theorem dX6_keeps_29 : decode cX6_keeps 29 = .ok (.iadd, 1) := by decide +kernel
theorem dX6_keeps_30 : decode cX6_keeps 30 = .ok (.iaload, 1) := by decide +kernel
theorem dX6_keeps_31 : decode cX6_keeps 31 = .ok (.iastore, 1) := by decide +kernel
theorem dX6_keeps_32 : decode cX6_keeps 32 = .ok (.iinc 1 1, 3) := by decide +kernel
theorem dX6_keeps_35 : decode cX6_keeps 35 = .ok (.goto (-25), 3) := by decide +kernel
theorem dX6_keeps_38 : decode cX6_keeps 38 = .ok (.aload_n 0, 1) := by decide +kernel
theorem dX6_keeps_39 : decode cX6_keeps 39 = .ok (.dup, 1) := by decide +kernel
theorem dX6_keeps_40 : decode cX6_keeps 40 = .ok (.getfield 56, 3) := by decide +kernel
theorem dX6_keeps_43 : decode cX6_keeps 43 = .ok (.iconst 1, 1) := by decide +kernel
theorem dX6_keeps_44 : decode cX6_keeps 44 = .ok (.isub, 1) := by decide +kernel
theorem dX6_keeps_45 : decode cX6_keeps 45 = .ok (.putfield 56, 3) := by decide +kernel
theorem dX6_keeps_48 : decode cX6_keeps 48 = .ok (.iconst 0, 1) := by decide +kernel
theorem dX6_keeps_49 : decode cX6_keeps 49 = .ok (.istore_n 1, 1) := by decide +kernel
theorem dX6_keeps_50 : decode cX6_keeps 50 = .ok (.iload_n 1, 1) := by decide +kernel
theorem dX6_keeps_51 : decode cX6_keeps 51 = .ok (.bipush 74, 2) := by decide +kernel
theorem dX6_keeps_53 : decode cX6_keeps 53 = .ok (.if_icmp .ge 29, 3) := by decide +kernel
theorem dX6_keeps_56 : decode cX6_keeps 56 = .ok (.aload_n 0, 1) := by decide +kernel
theorem dX6_keeps_57 : decode cX6_keeps 57 = .ok (.getfield 13, 3) := by decide +kernel
theorem dX6_keeps_60 : decode cX6_keeps 60 = .ok (.bipush 74, 2) := by decide +kernel
theorem dX6_keeps_62 : decode cX6_keeps 62 = .ok (.aload_n 0, 1) := by decide +kernel
theorem dX6_keeps_63 : decode cX6_keeps 63 = .ok (.getfield 56, 3) := by decide +kernel
theorem dX6_keeps_66 : decode cX6_keeps 66 = .ok (.imul, 1) := by decide +kernel
theorem dX6_keeps_67 : decode cX6_keeps 67 = .ok (.iload_n 1, 1) := by decide +kernel
theorem dX6_keeps_68 : decode cX6_keeps 68 = .ok (.iadd, 1) := by decide +kernel
theorem dX6_keeps_69 : decode cX6_keeps 69 = .ok (.aload_n 0, 1) := by decide +kernel
theorem dX6_keeps_70 : decode cX6_keeps 70 = .ok (.getfield 7, 3) := by decide +kernel
theorem dX6_keeps_73 : decode cX6_keeps 73 = .ok (.iload_n 1, 1) := by decide +kernel
theorem dX6_keeps_74 : decode cX6_keeps 74 = .ok (.iaload, 1) := by decide +kernel
theorem dX6_keeps_75 : decode cX6_keeps 75 = .ok (.iastore, 1) := by decide +kernel
theorem dX6_keeps_76 : decode cX6_keeps 76 = .ok (.iinc 1 1, 3) := by decide +kernel
theorem dX6_keeps_79 : decode cX6_keeps 79 = .ok (.goto (-29), 3) := by decide +kernel
theorem dX6_keeps_82 : decode cX6_keeps 82 = .ok (.aload_n 0, 1) := by decide +kernel
theorem dX6_keeps_83 : decode cX6_keeps 83 = .ok (.dup, 1) := by decide +kernel
theorem dX6_keeps_84 : decode cX6_keeps 84 = .ok (.getfield 56, 3) := by decide +kernel
theorem dX6_keeps_87 : decode cX6_keeps 87 = .ok (.iconst 1, 1) := by decide +kernel
theorem dX6_keeps_88 : decode cX6_keeps 88 = .ok (.iadd, 1) := by decide +kernel
theorem dX6_keeps_89 : decode cX6_keeps 89 = .ok (.putfield 56, 3) := by decide +kernel
theorem dX6_keeps_92 : decode cX6_keeps 92 = .ok (.return_, 1) := by decide +kernel
theorem dX6_undo_0 : decode cX6_undo 0 = .ok (.aload_n 0, 1) := by decide +kernel
theorem dX6_undo_1 : decode cX6_undo 1 = .ok (.getfield 56, 3) := by decide +kernel
theorem dX6_undo_4 : decode cX6_undo 4 = .ok (.ifCond .ne 6, 3) := by decide +kernel
theorem dX6_undo_7 : decode cX6_undo 7 = .ok (.ldc 60, 2) := by decide +kernel
theorem dX6_undo_9 : decode cX6_undo 9 = .ok (.ireturn, 1) := by decide +kernel
theorem dX6_undo_10 : decode cX6_undo 10 = .ok (.aload_n 0, 1) := by decide +kernel
theorem dX6_undo_11 : decode cX6_undo 11 = .ok (.dup, 1) := by decide +kernel
theorem dX6_undo_12 : decode cX6_undo 12 = .ok (.getfield 56, 3) := by decide +kernel
theorem dX6_undo_15 : decode cX6_undo 15 = .ok (.iconst 1, 1) := by decide +kernel
theorem dX6_undo_16 : decode cX6_undo 16 = .ok (.isub, 1) := by decide +kernel
theorem dX6_undo_17 : decode cX6_undo 17 = .ok (.putfield 56, 3) := by decide +kernel
theorem dX6_undo_20 : decode cX6_undo 20 = .ok (.iconst 0, 1) := by decide +kernel
theorem dX6_undo_21 : decode cX6_undo 21 = .ok (.istore_n 1, 1) := by decide +kernel
theorem dX6_undo_22 : decode cX6_undo 22 = .ok (.iload_n 1, 1) := by decide +kernel
theorem dX6_undo_23 : decode cX6_undo 23 = .ok (.bipush 74, 2) := by decide +kernel
theorem dX6_undo_25 : decode cX6_undo 25 = .ok (.if_icmp .ge 29, 3) := by decide +kernel
theorem dX6_undo_28 : decode cX6_undo 28 = .ok (.aload_n 0, 1) := by decide +kernel
theorem dX6_undo_29 : decode cX6_undo 29 = .ok (.getfield 7, 3) := by decide +kernel
theorem dX6_undo_32 : decode cX6_undo 32 = .ok (.iload_n 1, 1) := by decide +kernel
theorem dX6_undo_33 : decode cX6_undo 33 = .ok (.aload_n 0, 1) := by decide +kernel
theorem dX6_undo_34 : decode cX6_undo 34 = .ok (.getfield 13, 3) := by decide +kernel
theorem dX6_undo_37 : decode cX6_undo 37 = .ok (.bipush 74, 2) := by decide +kernel
theorem dX6_undo_39 : decode cX6_undo 39 = .ok (.aload_n 0, 1) := by decide +kernel
theorem dX6_undo_40 : decode cX6_undo 40 = .ok (.getfield 56, 3) := by decide +kernel
theorem dX6_undo_43 : decode cX6_undo 43 = .ok (.imul, 1) := by decide +kernel
theorem dX6_undo_44 : decode cX6_undo 44 = .ok (.iload_n 1, 1) := by decide +kernel
theorem dX6_undo_45 : decode cX6_undo 45 = .ok (.iadd, 1) := by decide +kernel
theorem dX6_undo_46 : decode cX6_undo 46 = .ok (.iaload, 1) := by decide +kernel
theorem dX6_undo_47 : decode cX6_undo 47 = .ok (.iastore, 1) := by decide +kernel
theorem dX6_undo_48 : decode cX6_undo 48 = .ok (.iinc 1 1, 3) := by decide +kernel
theorem dX6_undo_51 : decode cX6_undo 51 = .ok (.goto (-29), 3) := by decide +kernel
theorem dX6_undo_54 : decode cX6_undo 54 = .ok (.aload_n 0, 1) := by decide +kernel
theorem dX6_undo_55 : decode cX6_undo 55 = .ok (.getfield 56, 3) := by decide +kernel
theorem dX6_undo_58 : decode cX6_undo 58 = .ok (.ireturn, 1) := by decide +kernel
set_option maxRecDepth 20000 in
theorem ggX6_reset_X6_in : GoodIn wsX6_reset wsX6_in := goodIn_r _ [7] (by decide +kernel) (by decide +kernel)
set_option maxRecDepth 20000 in
theorem gX6_reset_X6_in : GoodIn wsX6_reset (va_wsS RX6 52 yX6_in wsX6_in) := goodIn_app (goodIn_of _ (by decide +kernel)) ggX6_reset_X6_in
set_option maxRecDepth 20000 in
theorem ggX6_reset_X6_keeps : GoodIn wsX6_reset wsX6_keeps := goodIn_r _ [11, 12, 13, 3, 14, 15, 16, 17, 18, 19, 20, 21, 22, 23, 24, 25] (by decide +kernel) (by decide +kernel)
set_option maxRecDepth 20000 in
theorem gX6_reset_X6_keeps : GoodIn wsX6_reset (wsV RX6 64 RX6 yX6_keeps wsX6_keeps) := goodIn_app (goodIn_of _ (by decide +kernel)) ggX6_reset_X6_keeps
theorem dX6_reset_0 : decode cX6_reset 0 = .ok (.iload_n 1, 1) := by decide +kernel
theorem dX6_reset_1 : decode cX6_reset 1 = .ok (.i2l, 1) := by decide +kernel
theorem dX6_reset_2 : decode cX6_reset 2 = .ok (.lconst 1, 1) := by decide +kernel
theorem dX6_reset_3 : decode cX6_reset 3 = .ok (.ldc2_w 61, 3) := by decide +kernel
theorem dX6_reset_6 : decode cX6_reset 6 = .ok (.invokestatic 52, 3) := by decide +kernel
theorem dX6_reset_9 : decode cX6_reset 9 = .ok (.ifCond .ne 6, 3) := by decide +kernel
theorem dX6_reset_12 : decode cX6_reset 12 = .ok (.ldc 63, 2) := by decide +kernel
theorem dX6_reset_14 : decode cX6_reset 14 = .ok (.ireturn, 1) := by decide +kernel
theorem dX6_reset_15 : decode cX6_reset 15 = .ok (.aload_n 0, 1) := by decide +kernel
theorem dX6_reset_16 : decode cX6_reset 16 = .ok (.invokevirtual 64, 3) := by decide +kernel
theorem dX6_reset_19 : decode cX6_reset 19 = .ok (.aload_n 0, 1) := by decide +kernel
theorem dX6_reset_20 : decode cX6_reset 20 = .ok (.getfield 7, 3) := by decide +kernel
theorem dX6_reset_23 : decode cX6_reset 23 = .ok (.iconst 0, 1) := by decide +kernel
theorem dX6_reset_24 : decode cX6_reset 24 = .ok (.iaload, 1) := by decide +kernel
theorem dX6_reset_25 : decode cX6_reset 25 = .ok (.istore_n 2, 1) := by decide +kernel
theorem dX6_reset_26 : decode cX6_reset 26 = .ok (.aload_n 0, 1) := by decide +kernel
theorem dX6_reset_27 : decode cX6_reset 27 = .ok (.getfield 7, 3) := by decide +kernel
theorem dX6_reset_30 : decode cX6_reset 30 = .ok (.iconst 0, 1) := by decide +kernel
theorem dX6_reset_31 : decode cX6_reset 31 = .ok (.iload_n 1, 1) := by decide +kernel
theorem dX6_reset_32 : decode cX6_reset 32 = .ok (.iastore, 1) := by decide +kernel
theorem dX6_reset_33 : decode cX6_reset 33 = .ok (.iconst 1, 1) := by decide +kernel
theorem dX6_reset_34 : decode cX6_reset 34 = .ok (.istore_n 3, 1) := by decide +kernel
theorem dX6_reset_35 : decode cX6_reset 35 = .ok (.iload_n 3, 1) := by decide +kernel
theorem dX6_reset_36 : decode cX6_reset 36 = .ok (.bipush 37, 2) := by decide +kernel
theorem dX6_reset_38 : decode cX6_reset 38 = .ok (.if_icmp .ge 16, 3) := by decide +kernel
theorem dX6_reset_41 : decode cX6_reset 41 = .ok (.aload_n 0, 1) := by decide +kernel
theorem dX6_reset_42 : decode cX6_reset 42 = .ok (.getfield 7, 3) := by decide +kernel
theorem dX6_reset_45 : decode cX6_reset 45 = .ok (.iload_n 3, 1) := by decide +kernel
theorem dX6_reset_46 : decode cX6_reset 46 = .ok (.iconst 0, 1) := by decide +kernel
theorem dX6_reset_47 : decode cX6_reset 47 = .ok (.iastore, 1) := by decide +kernel
theorem dX6_reset_48 : decode cX6_reset 48 = .ok (.iinc 3 1, 3) := by decide +kernel
theorem dX6_reset_51 : decode cX6_reset 51 = .ok (.goto (-16), 3) := by decide +kernel
theorem dX6_reset_54 : decode cX6_reset 54 = .ok (.iload_n 2, 1) := by decide +kernel
theorem dX6_reset_55 : decode cX6_reset 55 = .ok (.ireturn, 1) := by decide +kernel
set_option maxRecDepth 20000 in
theorem ggX6_setEntry_X6_isState : GoodIn wsX6_setEntry wsX6_isState := goodIn_r _ [8, 3, 9, 10, 7, 11, 21, 22, 23, 24, 25, 26, 27, 28, 29, 30, 31, 32] (by decide +kernel) (by decide +kernel)
set_option maxRecDepth 20000 in
theorem gX6_setEntry_X6_isState : GoodIn wsX6_setEntry (wsV RX6 67 RX6 yX6_isState wsX6_isState) := goodIn_app (goodIn_of _ (by decide +kernel)) ggX6_setEntry_X6_isState
set_option maxRecDepth 20000 in
theorem ggX6_setEntry_X6_in : GoodIn wsX6_setEntry wsX6_in := goodIn_r _ [11] (by decide +kernel) (by decide +kernel)
set_option maxRecDepth 20000 in
theorem gX6_setEntry_X6_in : GoodIn wsX6_setEntry (va_wsS RX6 52 yX6_in wsX6_in) := goodIn_app (goodIn_of _ (by decide +kernel)) ggX6_setEntry_X6_in
set_option maxRecDepth 20000 in
theorem ggX6_setEntry_X6_keeps : GoodIn wsX6_setEntry wsX6_keeps := goodIn_r _ [15, 16, 17, 3, 21, 22, 23, 24, 25, 26, 27, 28, 29, 30, 31, 32] (by decide +kernel) (by decide +kernel)
set_option maxRecDepth 20000 in
theorem gX6_setEntry_X6_keeps : GoodIn wsX6_setEntry (wsV RX6 64 RX6 yX6_keeps wsX6_keeps) := goodIn_app (goodIn_of _ (by decide +kernel)) ggX6_setEntry_X6_keeps
set_option maxRecDepth 20000 in
theorem ggX6_setEntry_X6_at : GoodIn wsX6_setEntry wsX6_at := goodIn_r _ [20] (by decide +kernel) (by decide +kernel)
set_option maxRecDepth 20000 in
theorem gX6_setEntry_X6_at : GoodIn wsX6_setEntry (va_wsS RX6 44 yX6_at wsX6_at) := goodIn_app (goodIn_of _ (by decide +kernel)) ggX6_setEntry_X6_at
theorem dX6_setEntry_0 : decode cX6_setEntry 0 = .ok (.aload_n 0, 1) := by decide +kernel
theorem dX6_setEntry_1 : decode cX6_setEntry 1 = .ok (.iload_n 1, 1) := by decide +kernel
theorem dX6_setEntry_2 : decode cX6_setEntry 2 = .ok (.invokevirtual 67, 3) := by decide +kernel
theorem dX6_setEntry_5 : decode cX6_setEntry 5 = .ok (.ifCond .eq 23, 3) := by decide +kernel
theorem dX6_setEntry_8 : decode cX6_setEntry 8 = .ok (.aload_n 0, 1) := by decide +kernel
theorem dX6_setEntry_9 : decode cX6_setEntry 9 = .ok (.iload_n 2, 1) := by decide +kernel
theorem dX6_setEntry_10 : decode cX6_setEntry 10 = .ok (.invokevirtual 67, 3) := by decide +kernel
theorem dX6_setEntry_13 : decode cX6_setEntry 13 = .ok (.ifCond .eq 15, 3) := by decide +kernel
theorem dX6_setEntry_16 : decode cX6_setEntry 16 = .ok (.iload_n 3, 1) := by decide +kernel
theorem dX6_setEntry_17 : decode cX6_setEntry 17 = .ok (.i2l, 1) := by decide +kernel
theorem dX6_setEntry_18 : decode cX6_setEntry 18 = .ok (.lconst 0, 1) := by decide +kernel
theorem dX6_setEntry_19 : decode cX6_setEntry 19 = .ok (.ldc2_w 71, 3) := by decide +kernel
theorem dX6_setEntry_22 : decode cX6_setEntry 22 = .ok (.invokestatic 52, 3) := by decide +kernel
theorem dX6_setEntry_25 : decode cX6_setEntry 25 = .ok (.ifCond .ne 6, 3) := by decide +kernel
theorem dX6_setEntry_28 : decode cX6_setEntry 28 = .ok (.ldc 63, 2) := by decide +kernel
theorem dX6_setEntry_30 : decode cX6_setEntry 30 = .ok (.ireturn, 1) := by decide +kernel
theorem dX6_setEntry_31 : decode cX6_setEntry 31 = .ok (.aload_n 0, 1) := by decide +kernel
theorem dX6_setEntry_32 : decode cX6_setEntry 32 = .ok (.invokevirtual 64, 3) := by decide +kernel
theorem dX6_setEntry_35 : decode cX6_setEntry 35 = .ok (.aload_n 0, 1) := by decide +kernel
theorem dX6_setEntry_36 : decode cX6_setEntry 36 = .ok (.getfield 7, 3) := by decide +kernel
theorem dX6_setEntry_39 : decode cX6_setEntry 39 = .ok (.iload_n 1, 1) := by decide +kernel
theorem dX6_setEntry_40 : decode cX6_setEntry 40 = .ok (.iload_n 2, 1) := by decide +kernel
theorem dX6_setEntry_41 : decode cX6_setEntry 41 = .ok (.invokestatic 44, 3) := by decide +kernel
theorem dX6_setEntry_44 : decode cX6_setEntry 44 = .ok (.iaload, 1) := by decide +kernel
theorem dX6_setEntry_45 : decode cX6_setEntry 45 = .ok (.istore 4, 2) := by decide +kernel
theorem dX6_setEntry_47 : decode cX6_setEntry 47 = .ok (.aload_n 0, 1) := by decide +kernel
theorem dX6_setEntry_48 : decode cX6_setEntry 48 = .ok (.getfield 7, 3) := by decide +kernel
theorem dX6_setEntry_51 : decode cX6_setEntry 51 = .ok (.iload_n 1, 1) := by decide +kernel
theorem dX6_setEntry_52 : decode cX6_setEntry 52 = .ok (.iload_n 2, 1) := by decide +kernel
theorem dX6_setEntry_53 : decode cX6_setEntry 53 = .ok (.invokestatic 44, 3) := by decide +kernel
theorem dX6_setEntry_56 : decode cX6_setEntry 56 = .ok (.iload_n 3, 1) := by decide +kernel
theorem dX6_setEntry_57 : decode cX6_setEntry 57 = .ok (.iastore, 1) := by decide +kernel
theorem dX6_setEntry_58 : decode cX6_setEntry 58 = .ok (.iload 4, 2) := by decide +kernel
theorem dX6_setEntry_60 : decode cX6_setEntry 60 = .ok (.ireturn, 1) := by decide +kernel
set_option maxRecDepth 20000 in
theorem ggX6_entry_X6_isState : GoodIn wsX6_entry wsX6_isState := goodIn_r _ [7, 1, 8, 9, 6, 10, 14, 15, 16, 17, 18, 19, 20, 21, 22, 23, 24, 25] (by decide +kernel) (by decide +kernel)
set_option maxRecDepth 20000 in
theorem gX6_entry_X6_isState : GoodIn wsX6_entry (wsV RX6 67 RX6 yX6_isState wsX6_isState) := goodIn_app (goodIn_of _ (by decide +kernel)) ggX6_entry_X6_isState
set_option maxRecDepth 20000 in
theorem ggX6_entry_X6_at : GoodIn wsX6_entry wsX6_at := goodIn_r _ [13] (by decide +kernel) (by decide +kernel)
set_option maxRecDepth 20000 in
theorem gX6_entry_X6_at : GoodIn wsX6_entry (va_wsS RX6 44 yX6_at wsX6_at) := goodIn_app (goodIn_of _ (by decide +kernel)) ggX6_entry_X6_at
theorem dX6_entry_0 : decode cX6_entry 0 = .ok (.aload_n 0, 1) := by decide +kernel
theorem dX6_entry_1 : decode cX6_entry 1 = .ok (.iload_n 1, 1) := by decide +kernel
theorem dX6_entry_2 : decode cX6_entry 2 = .ok (.invokevirtual 67, 3) := by decide +kernel
theorem dX6_entry_5 : decode cX6_entry 5 = .ok (.ifCond .eq 24, 3) := by decide +kernel
theorem dX6_entry_8 : decode cX6_entry 8 = .ok (.aload_n 0, 1) := by decide +kernel
theorem dX6_entry_9 : decode cX6_entry 9 = .ok (.iload_n 2, 1) := by decide +kernel
theorem dX6_entry_10 : decode cX6_entry 10 = .ok (.invokevirtual 67, 3) := by decide +kernel
theorem dX6_entry_13 : decode cX6_entry 13 = .ok (.ifCond .eq 16, 3) := by decide +kernel
theorem dX6_entry_16 : decode cX6_entry 16 = .ok (.aload_n 0, 1) := by decide +kernel
theorem dX6_entry_17 : decode cX6_entry 17 = .ok (.getfield 7, 3) := by decide +kernel
theorem dX6_entry_20 : decode cX6_entry 20 = .ok (.iload_n 1, 1) := by decide +kernel
theorem dX6_entry_21 : decode cX6_entry 21 = .ok (.iload_n 2, 1) := by decide +kernel
theorem dX6_entry_22 : decode cX6_entry 22 = .ok (.invokestatic 44, 3) := by decide +kernel
theorem dX6_entry_25 : decode cX6_entry 25 = .ok (.iaload, 1) := by decide +kernel
theorem dX6_entry_26 : decode cX6_entry 26 = .ok (.goto 5, 3) := by decide +kernel
theorem dX6_entry_29 : decode cX6_entry 29 = .ok (.ldc 63, 2) := by decide +kernel
theorem dX6_entry_31 : decode cX6_entry 31 = .ok (.ireturn, 1) := by decide +kernel
theorem dX6_size_0 : decode cX6_size 0 = .ok (.aload_n 0, 1) := by decide +kernel
theorem dX6_size_1 : decode cX6_size 1 = .ok (.getfield 7, 3) := by decide +kernel
theorem dX6_size_4 : decode cX6_size 4 = .ok (.iconst 0, 1) := by decide +kernel
theorem dX6_size_5 : decode cX6_size 5 = .ok (.iaload, 1) := by decide +kernel
theorem dX6_size_6 : decode cX6_size 6 = .ok (.ireturn, 1) := by decide +kernel
set_option maxRecDepth 20000 in
theorem ggX6_reaches_X6_at : GoodIn wsX6_reaches wsX6_at := goodIn_r _ [6] (by decide +kernel) (by decide +kernel)
set_option maxRecDepth 20000 in
theorem gX6_reaches_X6_at : GoodIn wsX6_reaches (va_wsS RX6 44 yX6_at wsX6_at) := goodIn_app (goodIn_of _ (by decide +kernel)) ggX6_reaches_X6_at
set_option maxRecDepth 20000 in
theorem ggX6_reaches_X6_has : GoodIn wsX6_reaches wsX6_has := goodIn_r _ [9] (by decide +kernel) (by decide +kernel)
set_option maxRecDepth 20000 in
theorem gX6_reaches_X6_has : GoodIn wsX6_reaches (va_wsS RX6 73 yX6_has wsX6_has) := goodIn_app (goodIn_of _ (by decide +kernel)) ggX6_reaches_X6_has
theorem dX6_reaches_0 : decode cX6_reaches 0 = .ok (.aload_n 0, 1) := by decide +kernel
theorem dX6_reaches_1 : decode cX6_reaches 1 = .ok (.getfield 7, 3) := by decide +kernel
theorem dX6_reaches_4 : decode cX6_reaches 4 = .ok (.iconst 0, 1) := by decide +kernel
theorem dX6_reaches_5 : decode cX6_reaches 5 = .ok (.iaload, 1) := by decide +kernel
theorem dX6_reaches_6 : decode cX6_reaches 6 = .ok (.istore_n 1, 1) := by decide +kernel
theorem dX6_reaches_7 : decode cX6_reaches 7 = .ok (.iconst 0, 1) := by decide +kernel
theorem dX6_reaches_8 : decode cX6_reaches 8 = .ok (.istore_n 2, 1) := by decide +kernel
theorem dX6_reaches_9 : decode cX6_reaches 9 = .ok (.iload_n 2, 1) := by decide +kernel
theorem dX6_reaches_10 : decode cX6_reaches 10 = .ok (.iload_n 1, 1) := by decide +kernel
theorem dX6_reaches_11 : decode cX6_reaches 11 = .ok (.if_icmp .ge 58, 3) := by decide +kernel
theorem dX6_reaches_14 : decode cX6_reaches 14 = .ok (.aload_n 0, 1) := by decide +kernel
theorem dX6_reaches_15 : decode cX6_reaches 15 = .ok (.getfield 19, 3) := by decide +kernel
theorem dX6_reaches_18 : decode cX6_reaches 18 = .ok (.iload_n 2, 1) := by decide +kernel
theorem dX6_reaches_19 : decode cX6_reaches 19 = .ok (.iconst 0, 1) := by decide +kernel
theorem dX6_reaches_20 : decode cX6_reaches 20 = .ok (.iastore, 1) := by decide +kernel
theorem dX6_reaches_21 : decode cX6_reaches 21 = .ok (.iconst 0, 1) := by decide +kernel
theorem dX6_reaches_22 : decode cX6_reaches 22 = .ok (.istore_n 3, 1) := by decide +kernel
theorem dX6_reaches_23 : decode cX6_reaches 23 = .ok (.iload_n 3, 1) := by decide +kernel
theorem dX6_reaches_24 : decode cX6_reaches 24 = .ok (.iload_n 1, 1) := by decide +kernel
theorem dX6_reaches_25 : decode cX6_reaches 25 = .ok (.if_icmp .ge 38, 3) := by decide +kernel
theorem dX6_reaches_28 : decode cX6_reaches 28 = .ok (.aload_n 0, 1) := by decide +kernel
theorem dX6_reaches_29 : decode cX6_reaches 29 = .ok (.getfield 19, 3) := by decide +kernel
theorem dX6_reaches_32 : decode cX6_reaches 32 = .ok (.iload_n 2, 1) := by decide +kernel
theorem dX6_reaches_33 : decode cX6_reaches 33 = .ok (.dup2, 1) := by decide +kernel
theorem dX6_reaches_34 : decode cX6_reaches 34 = .ok (.iaload, 1) := by decide +kernel
theorem dX6_reaches_35 : decode cX6_reaches 35 = .ok (.aload_n 0, 1) := by decide +kernel
theorem dX6_reaches_36 : decode cX6_reaches 36 = .ok (.getfield 7, 3) := by decide +kernel
theorem dX6_reaches_39 : decode cX6_reaches 39 = .ok (.iload_n 2, 1) := by decide +kernel
theorem dX6_reaches_40 : decode cX6_reaches 40 = .ok (.iload_n 3, 1) := by decide +kernel
theorem dX6_reaches_41 : decode cX6_reaches 41 = .ok (.invokestatic 44, 3) := by decide +kernel
theorem dX6_reaches_44 : decode cX6_reaches 44 = .ok (.iaload, 1) := by decide +kernel
theorem dX6_reaches_45 : decode cX6_reaches 45 = .ok (.ifCond .le 9, 3) := by decide +kernel
theorem dX6_reaches_48 : decode cX6_reaches 48 = .ok (.iconst 1, 1) := by decide +kernel
theorem dX6_reaches_49 : decode cX6_reaches 49 = .ok (.iload_n 3, 1) := by decide +kernel
theorem dX6_reaches_50 : decode cX6_reaches 50 = .ok (.ishl, 1) := by decide +kernel
theorem dX6_reaches_51 : decode cX6_reaches 51 = .ok (.goto 4, 3) := by decide +kernel
theorem dX6_reaches_54 : decode cX6_reaches 54 = .ok (.iconst 0, 1) := by decide +kernel
theorem dX6_reaches_55 : decode cX6_reaches 55 = .ok (.ior, 1) := by decide +kernel
theorem dX6_reaches_56 : decode cX6_reaches 56 = .ok (.iastore, 1) := by decide +kernel
theorem dX6_reaches_57 : decode cX6_reaches 57 = .ok (.iinc 3 1, 3) := by decide +kernel
theorem dX6_reaches_60 : decode cX6_reaches 60 = .ok (.goto (-37), 3) := by decide +kernel
theorem dX6_reaches_63 : decode cX6_reaches 63 = .ok (.iinc 2 1, 3) := by decide +kernel
theorem dX6_reaches_66 : decode cX6_reaches 66 = .ok (.goto (-57), 3) := by decide +kernel
theorem dX6_reaches_69 : decode cX6_reaches 69 = .ok (.iconst 0, 1) := by decide +kernel
theorem dX6_reaches_70 : decode cX6_reaches 70 = .ok (.istore_n 2, 1) := by decide +kernel
theorem dX6_reaches_71 : decode cX6_reaches 71 = .ok (.iload_n 2, 1) := by decide +kernel
theorem dX6_reaches_72 : decode cX6_reaches 72 = .ok (.iload_n 1, 1) := by decide +kernel
theorem dX6_reaches_73 : decode cX6_reaches 73 = .ok (.if_icmp .ge 54, 3) := by decide +kernel
theorem dX6_reaches_76 : decode cX6_reaches 76 = .ok (.iconst 0, 1) := by decide +kernel
theorem dX6_reaches_77 : decode cX6_reaches 77 = .ok (.istore_n 3, 1) := by decide +kernel
theorem dX6_reaches_78 : decode cX6_reaches 78 = .ok (.iload_n 3, 1) := by decide +kernel
theorem dX6_reaches_79 : decode cX6_reaches 79 = .ok (.iload_n 1, 1) := by decide +kernel
theorem dX6_reaches_80 : decode cX6_reaches 80 = .ok (.if_icmp .ge 41, 3) := by decide +kernel
theorem dX6_reaches_83 : decode cX6_reaches 83 = .ok (.aload_n 0, 1) := by decide +kernel
theorem dX6_reaches_84 : decode cX6_reaches 84 = .ok (.getfield 19, 3) := by decide +kernel
theorem dX6_reaches_87 : decode cX6_reaches 87 = .ok (.iload_n 3, 1) := by decide +kernel
theorem dX6_reaches_88 : decode cX6_reaches 88 = .ok (.dup2, 1) := by decide +kernel
theorem dX6_reaches_89 : decode cX6_reaches 89 = .ok (.iaload, 1) := by decide +kernel
theorem dX6_reaches_90 : decode cX6_reaches 90 = .ok (.aload_n 0, 1) := by decide +kernel
theorem dX6_reaches_91 : decode cX6_reaches 91 = .ok (.getfield 19, 3) := by decide +kernel
theorem dX6_reaches_94 : decode cX6_reaches 94 = .ok (.iload_n 3, 1) := by decide +kernel
theorem dX6_reaches_95 : decode cX6_reaches 95 = .ok (.iaload, 1) := by decide +kernel
theorem dX6_reaches_96 : decode cX6_reaches 96 = .ok (.iload_n 2, 1) := by decide +kernel
theorem dX6_reaches_97 : decode cX6_reaches 97 = .ok (.invokestatic 73, 3) := by decide +kernel
theorem dX6_reaches_100 : decode cX6_reaches 100 = .ok (.ifCond .eq 12, 3) := by decide +kernel
theorem dX6_reaches_103 : decode cX6_reaches 103 = .ok (.aload_n 0, 1) := by decide +kernel
theorem dX6_reaches_104 : decode cX6_reaches 104 = .ok (.getfield 19, 3) := by decide +kernel
theorem dX6_reaches_107 : decode cX6_reaches 107 = .ok (.iload_n 2, 1) := by decide +kernel
theorem dX6_reaches_108 : decode cX6_reaches 108 = .ok (.iaload, 1) := by decide +kernel
theorem dX6_reaches_109 : decode cX6_reaches 109 = .ok (.goto 4, 3) := by decide +kernel
theorem dX6_reaches_112 : decode cX6_reaches 112 = .ok (.iconst 0, 1) := by decide +kernel
theorem dX6_reaches_113 : decode cX6_reaches 113 = .ok (.ior, 1) := by decide +kernel
theorem dX6_reaches_114 : decode cX6_reaches 114 = .ok (.iastore, 1) := by decide +kernel
theorem dX6_reaches_115 : decode cX6_reaches 115 = .ok (.iinc 3 1, 3) := by decide +kernel
theorem dX6_reaches_118 : decode cX6_reaches 118 = .ok (.goto (-40), 3) := by decide +kernel
theorem dX6_reaches_121 : decode cX6_reaches 121 = .ok (.iinc 2 1, 3) := by decide +kernel
theorem dX6_reaches_124 : decode cX6_reaches 124 = .ok (.goto (-53), 3) := by decide +kernel
theorem dX6_reaches_127 : decode cX6_reaches 127 = .ok (.return_, 1) := by decide +kernel
theorem dX6_has_0 : decode cX6_has 0 = .ok (.iload_n 0, 1) := by decide +kernel
theorem dX6_has_1 : decode cX6_has 1 = .ok (.iload_n 1, 1) := by decide +kernel
theorem dX6_has_2 : decode cX6_has 2 = .ok (.ishr, 1) := by decide +kernel
theorem dX6_has_3 : decode cX6_has 3 = .ok (.iconst 1, 1) := by decide +kernel
theorem dX6_has_4 : decode cX6_has 4 = .ok (.iand, 1) := by decide +kernel
theorem dX6_has_5 : decode cX6_has 5 = .ok (.iconst 1, 1) := by decide +kernel
theorem dX6_has_6 : decode cX6_has 6 = .ok (.if_icmp .ne 7, 3) := by decide +kernel
theorem dX6_has_9 : decode cX6_has 9 = .ok (.iconst 1, 1) := by decide +kernel
theorem dX6_has_10 : decode cX6_has 10 = .ok (.goto 4, 3) := by decide +kernel
theorem dX6_has_13 : decode cX6_has 13 = .ok (.iconst 0, 1) := by decide +kernel
theorem dX6_has_14 : decode cX6_has 14 = .ok (.ireturn, 1) := by decide +kernel
set_option maxRecDepth 20000 in
theorem ggX6_essentialStates_X6_reaches : GoodIn wsX6_essentialStates wsX6_reaches := goodIn_r _ [7, 1, 2, 8, 9, 6, 10, 11, 12, 13, 14, 15, 16, 17, 18, 19, 20, 21, 22, 23, 24, 25] (by decide +kernel) (by decide +kernel)
set_option maxRecDepth 20000 in
theorem gX6_essentialStates_X6_reaches : GoodIn wsX6_essentialStates (wsV RX6 77 RX6 yX6_reaches wsX6_reaches) := goodIn_app (goodIn_of _ (by decide +kernel)) ggX6_essentialStates_X6_reaches
set_option maxRecDepth 20000 in
theorem ggX6_essentialStates_X6_has : GoodIn wsX6_essentialStates wsX6_has := goodIn_r _ [13] (by decide +kernel) (by decide +kernel)
set_option maxRecDepth 20000 in
theorem gX6_essentialStates_X6_has : GoodIn wsX6_essentialStates (va_wsS RX6 73 yX6_has wsX6_has) := goodIn_app (goodIn_of _ (by decide +kernel)) ggX6_essentialStates_X6_has
theorem dX6_essentialStates_0 : decode cX6_essentialStates 0 = .ok (.aload_n 0, 1) := by decide +kernel
theorem dX6_essentialStates_1 : decode cX6_essentialStates 1 = .ok (.invokevirtual 77, 3) := by decide +kernel
theorem dX6_essentialStates_4 : decode cX6_essentialStates 4 = .ok (.iconst 0, 1) := by decide +kernel
theorem dX6_essentialStates_5 : decode cX6_essentialStates 5 = .ok (.istore_n 1, 1) := by decide +kernel
theorem dX6_essentialStates_6 : decode cX6_essentialStates 6 = .ok (.iconst 0, 1) := by decide +kernel
theorem dX6_essentialStates_7 : decode cX6_essentialStates 7 = .ok (.istore_n 2, 1) := by decide +kernel
theorem dX6_essentialStates_8 : decode cX6_essentialStates 8 = .ok (.iload_n 2, 1) := by decide +kernel
theorem dX6_essentialStates_9 : decode cX6_essentialStates 9 = .ok (.aload_n 0, 1) := by decide +kernel
theorem dX6_essentialStates_10 : decode cX6_essentialStates 10 = .ok (.getfield 7, 3) := by decide +kernel
theorem dX6_essentialStates_13 : decode cX6_essentialStates 13 = .ok (.iconst 0, 1) := by decide +kernel
theorem dX6_essentialStates_14 : decode cX6_essentialStates 14 = .ok (.iaload, 1) := by decide +kernel
theorem dX6_essentialStates_15 : decode cX6_essentialStates 15 = .ok (.if_icmp .ge 32, 3) := by decide +kernel
theorem dX6_essentialStates_18 : decode cX6_essentialStates 18 = .ok (.iload_n 1, 1) := by decide +kernel
theorem dX6_essentialStates_19 : decode cX6_essentialStates 19 = .ok (.aload_n 0, 1) := by decide +kernel
theorem dX6_essentialStates_20 : decode cX6_essentialStates 20 = .ok (.getfield 19, 3) := by decide +kernel
theorem dX6_essentialStates_23 : decode cX6_essentialStates 23 = .ok (.iload_n 2, 1) := by decide +kernel
theorem dX6_essentialStates_24 : decode cX6_essentialStates 24 = .ok (.iaload, 1) := by decide +kernel
theorem dX6_essentialStates_25 : decode cX6_essentialStates 25 = .ok (.iload_n 2, 1) := by decide +kernel
theorem dX6_essentialStates_26 : decode cX6_essentialStates 26 = .ok (.invokestatic 73, 3) := by decide +kernel
theorem dX6_essentialStates_29 : decode cX6_essentialStates 29 = .ok (.ifCond .eq 9, 3) := by decide +kernel
theorem dX6_essentialStates_32 : decode cX6_essentialStates 32 = .ok (.iconst 1, 1) := by decide +kernel
theorem dX6_essentialStates_33 : decode cX6_essentialStates 33 = .ok (.iload_n 2, 1) := by decide +kernel
theorem dX6_essentialStates_34 : decode cX6_essentialStates 34 = .ok (.ishl, 1) := by decide +kernel
theorem dX6_essentialStates_35 : decode cX6_essentialStates 35 = .ok (.goto 4, 3) := by decide +kernel
theorem dX6_essentialStates_38 : decode cX6_essentialStates 38 = .ok (.iconst 0, 1) := by decide +kernel
theorem dX6_essentialStates_39 : decode cX6_essentialStates 39 = .ok (.ior, 1) := by decide +kernel
theorem dX6_essentialStates_40 : decode cX6_essentialStates 40 = .ok (.istore_n 1, 1) := by decide +kernel
theorem dX6_essentialStates_41 : decode cX6_essentialStates 41 = .ok (.iinc 2 1, 3) := by decide +kernel
theorem dX6_essentialStates_44 : decode cX6_essentialStates 44 = .ok (.goto (-36), 3) := by decide +kernel
theorem dX6_essentialStates_47 : decode cX6_essentialStates 47 = .ok (.iconst 0, 1) := by decide +kernel
theorem dX6_essentialStates_48 : decode cX6_essentialStates 48 = .ok (.istore_n 2, 1) := by decide +kernel
theorem dX6_essentialStates_49 : decode cX6_essentialStates 49 = .ok (.iconst 0, 1) := by decide +kernel
theorem dX6_essentialStates_50 : decode cX6_essentialStates 50 = .ok (.istore_n 3, 1) := by decide +kernel
theorem dX6_essentialStates_51 : decode cX6_essentialStates 51 = .ok (.iload_n 3, 1) := by decide +kernel
theorem dX6_essentialStates_52 : decode cX6_essentialStates 52 = .ok (.aload_n 0, 1) := by decide +kernel
theorem dX6_essentialStates_53 : decode cX6_essentialStates 53 = .ok (.getfield 7, 3) := by decide +kernel
theorem dX6_essentialStates_56 : decode cX6_essentialStates 56 = .ok (.iconst 0, 1) := by decide +kernel
theorem dX6_essentialStates_57 : decode cX6_essentialStates 57 = .ok (.iaload, 1) := by decide +kernel
theorem dX6_essentialStates_58 : decode cX6_essentialStates 58 = .ok (.if_icmp .ge 117, 3) := by decide +kernel
theorem dX6_essentialStates_61 : decode cX6_essentialStates 61 = .ok (.iload_n 1, 1) := by decide +kernel
theorem dX6_essentialStates_62 : decode cX6_essentialStates 62 = .ok (.iload_n 3, 1) := by decide +kernel
theorem dX6_essentialStates_63 : decode cX6_essentialStates 63 = .ok (.invokestatic 73, 3) := by decide +kernel
theorem dX6_essentialStates_66 : decode cX6_essentialStates 66 = .ok (.istore 4, 2) := by decide +kernel
theorem dX6_essentialStates_68 : decode cX6_essentialStates 68 = .ok (.iconst 0, 1) := by decide +kernel
theorem dX6_essentialStates_69 : decode cX6_essentialStates 69 = .ok (.istore 5, 2) := by decide +kernel
theorem dX6_essentialStates_71 : decode cX6_essentialStates 71 = .ok (.iload 5, 2) := by decide +kernel
theorem dX6_essentialStates_73 : decode cX6_essentialStates 73 = .ok (.aload_n 0, 1) := by decide +kernel
theorem dX6_essentialStates_74 : decode cX6_essentialStates 74 = .ok (.getfield 7, 3) := by decide +kernel
theorem dX6_essentialStates_77 : decode cX6_essentialStates 77 = .ok (.iconst 0, 1) := by decide +kernel
theorem dX6_essentialStates_78 : decode cX6_essentialStates 78 = .ok (.iaload, 1) := by decide +kernel
theorem dX6_essentialStates_79 : decode cX6_essentialStates 79 = .ok (.if_icmp .ge 44, 3) := by decide +kernel
theorem dX6_essentialStates_82 : decode cX6_essentialStates 82 = .ok (.iload 4, 2) := by decide +kernel
theorem dX6_essentialStates_84 : decode cX6_essentialStates 84 = .ok (.ifCond .ne 26, 3) := by decide +kernel
theorem dX6_essentialStates_87 : decode cX6_essentialStates 87 = .ok (.iload_n 1, 1) := by decide +kernel
theorem dX6_essentialStates_88 : decode cX6_essentialStates 88 = .ok (.iload 5, 2) := by decide +kernel
theorem dX6_essentialStates_90 : decode cX6_essentialStates 90 = .ok (.invokestatic 73, 3) := by decide +kernel
theorem dX6_essentialStates_93 : decode cX6_essentialStates 93 = .ok (.ifCond .eq 21, 3) := by decide +kernel
theorem dX6_essentialStates_96 : decode cX6_essentialStates 96 = .ok (.aload_n 0, 1) := by decide +kernel
theorem dX6_essentialStates_97 : decode cX6_essentialStates 97 = .ok (.getfield 19, 3) := by decide +kernel
theorem dX6_essentialStates_100 : decode cX6_essentialStates 100 = .ok (.iload 5, 2) := by decide +kernel
theorem dX6_essentialStates_102 : decode cX6_essentialStates 102 = .ok (.iaload, 1) := by decide +kernel
theorem dX6_essentialStates_103 : decode cX6_essentialStates 103 = .ok (.iload_n 3, 1) := by decide +kernel
theorem dX6_essentialStates_104 : decode cX6_essentialStates 104 = .ok (.invokestatic 73, 3) := by decide +kernel
theorem dX6_essentialStates_107 : decode cX6_essentialStates 107 = .ok (.ifCond .eq 7, 3) := by decide +kernel
theorem dX6_essentialStates_110 : decode cX6_essentialStates 110 = .ok (.iconst 1, 1) := by decide +kernel
theorem dX6_essentialStates_111 : decode cX6_essentialStates 111 = .ok (.goto 4, 3) := by decide +kernel
theorem dX6_essentialStates_114 : decode cX6_essentialStates 114 = .ok (.iconst 0, 1) := by decide +kernel
theorem dX6_essentialStates_115 : decode cX6_essentialStates 115 = .ok (.istore 4, 2) := by decide +kernel
theorem dX6_essentialStates_117 : decode cX6_essentialStates 117 = .ok (.iinc 5 1, 3) := by decide +kernel
theorem dX6_essentialStates_120 : decode cX6_essentialStates 120 = .ok (.goto (-49), 3) := by decide +kernel
theorem dX6_essentialStates_123 : decode cX6_essentialStates 123 = .ok (.iload_n 1, 1) := by decide +kernel
theorem dX6_essentialStates_124 : decode cX6_essentialStates 124 = .ok (.iload_n 3, 1) := by decide +kernel
theorem dX6_essentialStates_125 : decode cX6_essentialStates 125 = .ok (.invokestatic 73, 3) := by decide +kernel
theorem dX6_essentialStates_128 : decode cX6_essentialStates 128 = .ok (.ifCond .ne 14, 3) := by decide +kernel
theorem dX6_essentialStates_131 : decode cX6_essentialStates 131 = .ok (.aload_n 0, 1) := by decide +kernel
theorem dX6_essentialStates_132 : decode cX6_essentialStates 132 = .ok (.getfield 19, 3) := by decide +kernel
theorem dX6_essentialStates_135 : decode cX6_essentialStates 135 = .ok (.iload_n 3, 1) := by decide +kernel
theorem dX6_essentialStates_136 : decode cX6_essentialStates 136 = .ok (.iaload, 1) := by decide +kernel
theorem dX6_essentialStates_137 : decode cX6_essentialStates 137 = .ok (.iload_n 1, 1) := by decide +kernel
theorem dX6_essentialStates_138 : decode cX6_essentialStates 138 = .ok (.iand, 1) := by decide +kernel
theorem dX6_essentialStates_139 : decode cX6_essentialStates 139 = .ok (.ifCond .eq 7, 3) := by decide +kernel
theorem dX6_essentialStates_142 : decode cX6_essentialStates 142 = .ok (.iconst 1, 1) := by decide +kernel
theorem dX6_essentialStates_143 : decode cX6_essentialStates 143 = .ok (.goto 4, 3) := by decide +kernel
theorem dX6_essentialStates_146 : decode cX6_essentialStates 146 = .ok (.iconst 0, 1) := by decide +kernel
theorem dX6_essentialStates_147 : decode cX6_essentialStates 147 = .ok (.istore 5, 2) := by decide +kernel
theorem dX6_essentialStates_149 : decode cX6_essentialStates 149 = .ok (.iload_n 2, 1) := by decide +kernel
theorem dX6_essentialStates_150 : decode cX6_essentialStates 150 = .ok (.iload 4, 2) := by decide +kernel
theorem dX6_essentialStates_152 : decode cX6_essentialStates 152 = .ok (.ifCond .eq 14, 3) := by decide +kernel
theorem dX6_essentialStates_155 : decode cX6_essentialStates 155 = .ok (.iload 5, 2) := by decide +kernel
theorem dX6_essentialStates_157 : decode cX6_essentialStates 157 = .ok (.ifCond .eq 9, 3) := by decide +kernel
theorem dX6_essentialStates_160 : decode cX6_essentialStates 160 = .ok (.iconst 1, 1) := by decide +kernel
theorem dX6_essentialStates_161 : decode cX6_essentialStates 161 = .ok (.iload_n 3, 1) := by decide +kernel
theorem dX6_essentialStates_162 : decode cX6_essentialStates 162 = .ok (.ishl, 1) := by decide +kernel
theorem dX6_essentialStates_163 : decode cX6_essentialStates 163 = .ok (.goto 4, 3) := by decide +kernel
theorem dX6_essentialStates_166 : decode cX6_essentialStates 166 = .ok (.iconst 0, 1) := by decide +kernel
theorem dX6_essentialStates_167 : decode cX6_essentialStates 167 = .ok (.ior, 1) := by decide +kernel
theorem dX6_essentialStates_168 : decode cX6_essentialStates 168 = .ok (.istore_n 2, 1) := by decide +kernel
theorem dX6_essentialStates_169 : decode cX6_essentialStates 169 = .ok (.iinc 3 1, 3) := by decide +kernel
theorem dX6_essentialStates_172 : decode cX6_essentialStates 172 = .ok (.goto (-121), 3) := by decide +kernel
theorem dX6_essentialStates_175 : decode cX6_essentialStates 175 = .ok (.iload_n 2, 1) := by decide +kernel
theorem dX6_essentialStates_176 : decode cX6_essentialStates 176 = .ok (.ireturn, 1) := by decide +kernel
set_option maxRecDepth 20000 in
theorem ggX6_goes_X6_at : GoodIn wsX6_goes wsX6_at := goodIn_r _ [5] (by decide +kernel) (by decide +kernel)
set_option maxRecDepth 20000 in
theorem gX6_goes_X6_at : GoodIn wsX6_goes (va_wsS RX6 44 yX6_at wsX6_at) := goodIn_app (goodIn_of _ (by decide +kernel)) ggX6_goes_X6_at
set_option maxRecDepth 20000 in
theorem ggX6_goes_X6_clean : GoodIn wsX6_goes wsX6_clean := goodIn_r _ [9, 1, 2, 3, 4, 5, 10, 11, 12, 13, 14, 15, 16, 17, 18, 19, 20, 21] (by decide +kernel) (by decide +kernel)
set_option maxRecDepth 20000 in
theorem gX6_goes_X6_clean : GoodIn wsX6_goes (wsV RX6 80 RX6 yX6_clean wsX6_clean) := goodIn_app (goodIn_of _ (by decide +kernel)) ggX6_goes_X6_clean
theorem dX6_goes_0 : decode cX6_goes 0 = .ok (.aload_n 0, 1) := by decide +kernel
theorem dX6_goes_1 : decode cX6_goes 1 = .ok (.getfield 7, 3) := by decide +kernel
theorem dX6_goes_4 : decode cX6_goes 4 = .ok (.iconst 0, 1) := by decide +kernel
theorem dX6_goes_5 : decode cX6_goes 5 = .ok (.iaload, 1) := by decide +kernel
theorem dX6_goes_6 : decode cX6_goes 6 = .ok (.istore_n 2, 1) := by decide +kernel
theorem dX6_goes_7 : decode cX6_goes 7 = .ok (.iconst 0, 1) := by decide +kernel
theorem dX6_goes_8 : decode cX6_goes 8 = .ok (.istore_n 3, 1) := by decide +kernel
theorem dX6_goes_9 : decode cX6_goes 9 = .ok (.iload_n 3, 1) := by decide +kernel
theorem dX6_goes_10 : decode cX6_goes 10 = .ok (.iload_n 2, 1) := by decide +kernel
theorem dX6_goes_11 : decode cX6_goes 11 = .ok (.if_icmp .ge 50, 3) := by decide +kernel
theorem dX6_goes_14 : decode cX6_goes 14 = .ok (.iload_n 1, 1) := by decide +kernel
theorem dX6_goes_15 : decode cX6_goes 15 = .ok (.istore 4, 2) := by decide +kernel
theorem dX6_goes_17 : decode cX6_goes 17 = .ok (.iload 4, 2) := by decide +kernel
theorem dX6_goes_19 : decode cX6_goes 19 = .ok (.iload_n 2, 1) := by decide +kernel
theorem dX6_goes_20 : decode cX6_goes 20 = .ok (.iconst 1, 1) := by decide +kernel
theorem dX6_goes_21 : decode cX6_goes 21 = .ok (.isub, 1) := by decide +kernel
theorem dX6_goes_22 : decode cX6_goes 22 = .ok (.if_icmp .ge 33, 3) := by decide +kernel
theorem dX6_goes_25 : decode cX6_goes 25 = .ok (.aload_n 0, 1) := by decide +kernel
theorem dX6_goes_26 : decode cX6_goes 26 = .ok (.getfield 7, 3) := by decide +kernel
theorem dX6_goes_29 : decode cX6_goes 29 = .ok (.iload_n 3, 1) := by decide +kernel
theorem dX6_goes_30 : decode cX6_goes 30 = .ok (.iload 4, 2) := by decide +kernel
theorem dX6_goes_32 : decode cX6_goes 32 = .ok (.invokestatic 44, 3) := by decide +kernel
theorem dX6_goes_35 : decode cX6_goes 35 = .ok (.aload_n 0, 1) := by decide +kernel
theorem dX6_goes_36 : decode cX6_goes 36 = .ok (.getfield 7, 3) := by decide +kernel
theorem dX6_goes_39 : decode cX6_goes 39 = .ok (.iload_n 3, 1) := by decide +kernel
theorem dX6_goes_40 : decode cX6_goes 40 = .ok (.iload 4, 2) := by decide +kernel
theorem dX6_goes_42 : decode cX6_goes 42 = .ok (.iconst 1, 1) := by decide +kernel
theorem dX6_goes_43 : decode cX6_goes 43 = .ok (.iadd, 1) := by decide +kernel
theorem dX6_goes_44 : decode cX6_goes 44 = .ok (.invokestatic 44, 3) := by decide +kernel
theorem dX6_goes_47 : decode cX6_goes 47 = .ok (.iaload, 1) := by decide +kernel
theorem dX6_goes_48 : decode cX6_goes 48 = .ok (.iastore, 1) := by decide +kernel
theorem dX6_goes_49 : decode cX6_goes 49 = .ok (.iinc 4 1, 3) := by decide +kernel
theorem dX6_goes_52 : decode cX6_goes 52 = .ok (.goto (-35), 3) := by decide +kernel
theorem dX6_goes_55 : decode cX6_goes 55 = .ok (.iinc 3 1, 3) := by decide +kernel
theorem dX6_goes_58 : decode cX6_goes 58 = .ok (.goto (-49), 3) := by decide +kernel
theorem dX6_goes_61 : decode cX6_goes 61 = .ok (.iload_n 1, 1) := by decide +kernel
theorem dX6_goes_62 : decode cX6_goes 62 = .ok (.istore_n 3, 1) := by decide +kernel
theorem dX6_goes_63 : decode cX6_goes 63 = .ok (.iload_n 3, 1) := by decide +kernel
theorem dX6_goes_64 : decode cX6_goes 64 = .ok (.iload_n 2, 1) := by decide +kernel
theorem dX6_goes_65 : decode cX6_goes 65 = .ok (.iconst 1, 1) := by decide +kernel
theorem dX6_goes_66 : decode cX6_goes 66 = .ok (.isub, 1) := by decide +kernel
theorem dX6_goes_67 : decode cX6_goes 67 = .ok (.if_icmp .ge 48, 3) := by decide +kernel
theorem dX6_goes_70 : decode cX6_goes 70 = .ok (.iconst 0, 1) := by decide +kernel
theorem dX6_goes_71 : decode cX6_goes 71 = .ok (.istore 4, 2) := by decide +kernel
theorem dX6_goes_73 : decode cX6_goes 73 = .ok (.iload 4, 2) := by decide +kernel
theorem dX6_goes_75 : decode cX6_goes 75 = .ok (.iload_n 2, 1) := by decide +kernel
theorem dX6_goes_76 : decode cX6_goes 76 = .ok (.if_icmp .ge 33, 3) := by decide +kernel
theorem dX6_goes_79 : decode cX6_goes 79 = .ok (.aload_n 0, 1) := by decide +kernel
theorem dX6_goes_80 : decode cX6_goes 80 = .ok (.getfield 7, 3) := by decide +kernel
theorem dX6_goes_83 : decode cX6_goes 83 = .ok (.iload_n 3, 1) := by decide +kernel
theorem dX6_goes_84 : decode cX6_goes 84 = .ok (.iload 4, 2) := by decide +kernel
theorem dX6_goes_86 : decode cX6_goes 86 = .ok (.invokestatic 44, 3) := by decide +kernel
theorem dX6_goes_89 : decode cX6_goes 89 = .ok (.aload_n 0, 1) := by decide +kernel
theorem dX6_goes_90 : decode cX6_goes 90 = .ok (.getfield 7, 3) := by decide +kernel
theorem dX6_goes_93 : decode cX6_goes 93 = .ok (.iload_n 3, 1) := by decide +kernel
theorem dX6_goes_94 : decode cX6_goes 94 = .ok (.iconst 1, 1) := by decide +kernel
theorem dX6_goes_95 : decode cX6_goes 95 = .ok (.iadd, 1) := by decide +kernel
theorem dX6_goes_96 : decode cX6_goes 96 = .ok (.iload 4, 2) := by decide +kernel
theorem dX6_goes_98 : decode cX6_goes 98 = .ok (.invokestatic 44, 3) := by decide +kernel
theorem dX6_goes_101 : decode cX6_goes 101 = .ok (.iaload, 1) := by decide +kernel
theorem dX6_goes_102 : decode cX6_goes 102 = .ok (.iastore, 1) := by decide +kernel
theorem dX6_goes_103 : decode cX6_goes 103 = .ok (.iinc 4 1, 3) := by decide +kernel
theorem dX6_goes_106 : decode cX6_goes 106 = .ok (.goto (-33), 3) := by decide +kernel
theorem dX6_goes_109 : decode cX6_goes 109 = .ok (.iinc 3 1, 3) := by decide +kernel
theorem dX6_goes_112 : decode cX6_goes 112 = .ok (.goto (-49), 3) := by decide +kernel
theorem dX6_goes_115 : decode cX6_goes 115 = .ok (.aload_n 0, 1) := by decide +kernel
theorem dX6_goes_116 : decode cX6_goes 116 = .ok (.getfield 7, 3) := by decide +kernel
theorem dX6_goes_119 : decode cX6_goes 119 = .ok (.iconst 0, 1) := by decide +kernel
theorem dX6_goes_120 : decode cX6_goes 120 = .ok (.iload_n 2, 1) := by decide +kernel
theorem dX6_goes_121 : decode cX6_goes 121 = .ok (.iconst 1, 1) := by decide +kernel
theorem dX6_goes_122 : decode cX6_goes 122 = .ok (.isub, 1) := by decide +kernel
theorem dX6_goes_123 : decode cX6_goes 123 = .ok (.iastore, 1) := by decide +kernel
theorem dX6_goes_124 : decode cX6_goes 124 = .ok (.aload_n 0, 1) := by decide +kernel
theorem dX6_goes_125 : decode cX6_goes 125 = .ok (.invokevirtual 80, 3) := by decide +kernel
theorem dX6_goes_128 : decode cX6_goes 128 = .ok (.return_, 1) := by decide +kernel
set_option maxRecDepth 20000 in
theorem ggX6_clean_X6_at : GoodIn wsX6_clean wsX6_at := goodIn_r _ [5] (by decide +kernel) (by decide +kernel)
set_option maxRecDepth 20000 in
theorem gX6_clean_X6_at : GoodIn wsX6_clean (va_wsS RX6 44 yX6_at wsX6_at) := goodIn_app (goodIn_of _ (by decide +kernel)) ggX6_clean_X6_at
theorem dX6_clean_0 : decode cX6_clean 0 = .ok (.iconst 0, 1) := by decide +kernel
theorem dX6_clean_1 : decode cX6_clean 1 = .ok (.istore_n 1, 1) := by decide +kernel
theorem dX6_clean_2 : decode cX6_clean 2 = .ok (.iload_n 1, 1) := by decide +kernel
theorem dX6_clean_3 : decode cX6_clean 3 = .ok (.bipush 6, 2) := by decide +kernel
theorem dX6_clean_5 : decode cX6_clean 5 = .ok (.if_icmp .ge 67, 3) := by decide +kernel
theorem dX6_clean_8 : decode cX6_clean 8 = .ok (.iconst 0, 1) := by decide +kernel
theorem dX6_clean_9 : decode cX6_clean 9 = .ok (.istore_n 2, 1) := by decide +kernel
theorem dX6_clean_10 : decode cX6_clean 10 = .ok (.iload_n 2, 1) := by decide +kernel
theorem dX6_clean_11 : decode cX6_clean 11 = .ok (.bipush 6, 2) := by decide +kernel
theorem dX6_clean_13 : decode cX6_clean 13 = .ok (.if_icmp .ge 53, 3) := by decide +kernel
theorem dX6_clean_16 : decode cX6_clean 16 = .ok (.aload_n 0, 1) := by decide +kernel
theorem dX6_clean_17 : decode cX6_clean 17 = .ok (.getfield 7, 3) := by decide +kernel
theorem dX6_clean_20 : decode cX6_clean 20 = .ok (.iload_n 1, 1) := by decide +kernel
theorem dX6_clean_21 : decode cX6_clean 21 = .ok (.iload_n 2, 1) := by decide +kernel
theorem dX6_clean_22 : decode cX6_clean 22 = .ok (.invokestatic 44, 3) := by decide +kernel
theorem dX6_clean_25 : decode cX6_clean 25 = .ok (.iload_n 1, 1) := by decide +kernel
theorem dX6_clean_26 : decode cX6_clean 26 = .ok (.aload_n 0, 1) := by decide +kernel
theorem dX6_clean_27 : decode cX6_clean 27 = .ok (.getfield 7, 3) := by decide +kernel
theorem dX6_clean_30 : decode cX6_clean 30 = .ok (.iconst 0, 1) := by decide +kernel
theorem dX6_clean_31 : decode cX6_clean 31 = .ok (.iaload, 1) := by decide +kernel
theorem dX6_clean_32 : decode cX6_clean 32 = .ok (.if_icmp .ge 26, 3) := by decide +kernel
theorem dX6_clean_35 : decode cX6_clean 35 = .ok (.iload_n 2, 1) := by decide +kernel
theorem dX6_clean_36 : decode cX6_clean 36 = .ok (.aload_n 0, 1) := by decide +kernel
theorem dX6_clean_37 : decode cX6_clean 37 = .ok (.getfield 7, 3) := by decide +kernel
theorem dX6_clean_40 : decode cX6_clean 40 = .ok (.iconst 0, 1) := by decide +kernel
theorem dX6_clean_41 : decode cX6_clean 41 = .ok (.iaload, 1) := by decide +kernel
theorem dX6_clean_42 : decode cX6_clean 42 = .ok (.if_icmp .ge 16, 3) := by decide +kernel
theorem dX6_clean_45 : decode cX6_clean 45 = .ok (.aload_n 0, 1) := by decide +kernel
theorem dX6_clean_46 : decode cX6_clean 46 = .ok (.getfield 7, 3) := by decide +kernel
theorem dX6_clean_49 : decode cX6_clean 49 = .ok (.iload_n 1, 1) := by decide +kernel
theorem dX6_clean_50 : decode cX6_clean 50 = .ok (.iload_n 2, 1) := by decide +kernel
theorem dX6_clean_51 : decode cX6_clean 51 = .ok (.invokestatic 44, 3) := by decide +kernel
theorem dX6_clean_54 : decode cX6_clean 54 = .ok (.iaload, 1) := by decide +kernel
theorem dX6_clean_55 : decode cX6_clean 55 = .ok (.goto 4, 3) := by decide +kernel
theorem dX6_clean_58 : decode cX6_clean 58 = .ok (.iconst 0, 1) := by decide +kernel
theorem dX6_clean_59 : decode cX6_clean 59 = .ok (.iastore, 1) := by decide +kernel
theorem dX6_clean_60 : decode cX6_clean 60 = .ok (.iinc 2 1, 3) := by decide +kernel
theorem dX6_clean_63 : decode cX6_clean 63 = .ok (.goto (-53), 3) := by decide +kernel
theorem dX6_clean_66 : decode cX6_clean 66 = .ok (.iinc 1 1, 3) := by decide +kernel
theorem dX6_clean_69 : decode cX6_clean 69 = .ok (.goto (-67), 3) := by decide +kernel
theorem dX6_clean_72 : decode cX6_clean 72 = .ok (.return_, 1) := by decide +kernel
set_option maxRecDepth 20000 in
theorem ggX6_trim_X6_essentialStates : GoodIn wsX6_trim wsX6_essentialStates := goodIn_r _ [7, 2, 8, 9, 10, 11, 6, 12, 13, 14, 15, 16, 17, 18, 33, 34, 35, 36, 37, 38, 39, 40, 41, 42, 43, 44] (by decide +kernel) (by decide +kernel)
set_option maxRecDepth 20000 in
theorem gX6_trim_X6_essentialStates : GoodIn wsX6_trim (wsV RX6 83 RX6 yX6_essentialStates wsX6_essentialStates) := goodIn_app (goodIn_of _ (by decide +kernel)) ggX6_trim_X6_essentialStates
set_option maxRecDepth 20000 in
theorem ggX6_trim_X6_keeps : GoodIn wsX6_trim wsX6_keeps := goodIn_r _ [22, 23, 24, 2, 33, 34, 35, 36, 37, 38, 39, 40, 41, 42, 43, 44] (by decide +kernel) (by decide +kernel)
set_option maxRecDepth 20000 in
theorem gX6_trim_X6_keeps : GoodIn wsX6_trim (wsV RX6 64 RX6 yX6_keeps wsX6_keeps) := goodIn_app (goodIn_of _ (by decide +kernel)) ggX6_trim_X6_keeps
set_option maxRecDepth 20000 in
theorem ggX6_trim_X6_has : GoodIn wsX6_trim wsX6_has := goodIn_r _ [18] (by decide +kernel) (by decide +kernel)
set_option maxRecDepth 20000 in
theorem gX6_trim_X6_has : GoodIn wsX6_trim (va_wsS RX6 73 yX6_has wsX6_has) := goodIn_app (goodIn_of _ (by decide +kernel)) ggX6_trim_X6_has
set_option maxRecDepth 20000 in
theorem ggX6_trim_X6_goes : GoodIn wsX6_trim wsX6_goes := goodIn_r _ [28, 2, 13, 14, 6, 15, 29, 30, 31, 32, 33, 34, 35, 36, 37, 38, 39, 40, 41, 42, 43, 44] (by decide +kernel) (by decide +kernel)
set_option maxRecDepth 20000 in
theorem gX6_trim_X6_goes : GoodIn wsX6_trim (wsV RX6 86 RX6 yX6_goes wsX6_goes) := goodIn_app (goodIn_of _ (by decide +kernel)) ggX6_trim_X6_goes
theorem dX6_trim_0 : decode cX6_trim 0 = .ok (.aload_n 0, 1) := by decide +kernel
theorem dX6_trim_1 : decode cX6_trim 1 = .ok (.invokevirtual 83, 3) := by decide +kernel
theorem dX6_trim_4 : decode cX6_trim 4 = .ok (.istore_n 1, 1) := by decide +kernel
theorem dX6_trim_5 : decode cX6_trim 5 = .ok (.iload_n 1, 1) := by decide +kernel
theorem dX6_trim_6 : decode cX6_trim 6 = .ok (.ifCond .ne 6, 3) := by decide +kernel
theorem dX6_trim_9 : decode cX6_trim 9 = .ok (.ldc 60, 2) := by decide +kernel
theorem dX6_trim_11 : decode cX6_trim 11 = .ok (.ireturn, 1) := by decide +kernel
theorem dX6_trim_12 : decode cX6_trim 12 = .ok (.aload_n 0, 1) := by decide +kernel
theorem dX6_trim_13 : decode cX6_trim 13 = .ok (.invokevirtual 64, 3) := by decide +kernel
theorem dX6_trim_16 : decode cX6_trim 16 = .ok (.aload_n 0, 1) := by decide +kernel
theorem dX6_trim_17 : decode cX6_trim 17 = .ok (.getfield 7, 3) := by decide +kernel
theorem dX6_trim_20 : decode cX6_trim 20 = .ok (.iconst 0, 1) := by decide +kernel
theorem dX6_trim_21 : decode cX6_trim 21 = .ok (.iaload, 1) := by decide +kernel
theorem dX6_trim_22 : decode cX6_trim 22 = .ok (.istore_n 2, 1) := by decide +kernel
theorem dX6_trim_23 : decode cX6_trim 23 = .ok (.iload_n 2, 1) := by decide +kernel
theorem dX6_trim_24 : decode cX6_trim 24 = .ok (.iconst 1, 1) := by decide +kernel
theorem dX6_trim_25 : decode cX6_trim 25 = .ok (.isub, 1) := by decide +kernel
theorem dX6_trim_26 : decode cX6_trim 26 = .ok (.istore_n 3, 1) := by decide +kernel
theorem dX6_trim_27 : decode cX6_trim 27 = .ok (.iload_n 3, 1) := by decide +kernel
theorem dX6_trim_28 : decode cX6_trim 28 = .ok (.ifCond .lt 22, 3) := by decide +kernel
theorem dX6_trim_31 : decode cX6_trim 31 = .ok (.iload_n 1, 1) := by decide +kernel
theorem dX6_trim_32 : decode cX6_trim 32 = .ok (.iload_n 3, 1) := by decide +kernel
theorem dX6_trim_33 : decode cX6_trim 33 = .ok (.invokestatic 73, 3) := by decide +kernel
theorem dX6_trim_36 : decode cX6_trim 36 = .ok (.ifCond .ne 8, 3) := by decide +kernel
theorem dX6_trim_39 : decode cX6_trim 39 = .ok (.aload_n 0, 1) := by decide +kernel
theorem dX6_trim_40 : decode cX6_trim 40 = .ok (.iload_n 3, 1) := by decide +kernel
theorem dX6_trim_41 : decode cX6_trim 41 = .ok (.invokevirtual 86, 3) := by decide +kernel
theorem dX6_trim_44 : decode cX6_trim 44 = .ok (.iinc 3 (-1), 3) := by decide +kernel
theorem dX6_trim_47 : decode cX6_trim 47 = .ok (.goto (-20), 3) := by decide +kernel
theorem dX6_trim_50 : decode cX6_trim 50 = .ok (.iload_n 2, 1) := by decide +kernel
theorem dX6_trim_51 : decode cX6_trim 51 = .ok (.aload_n 0, 1) := by decide +kernel
theorem dX6_trim_52 : decode cX6_trim 52 = .ok (.getfield 7, 3) := by decide +kernel
theorem dX6_trim_55 : decode cX6_trim 55 = .ok (.iconst 0, 1) := by decide +kernel
theorem dX6_trim_56 : decode cX6_trim 56 = .ok (.iaload, 1) := by decide +kernel
theorem dX6_trim_57 : decode cX6_trim 57 = .ok (.isub, 1) := by decide +kernel
theorem dX6_trim_58 : decode cX6_trim 58 = .ok (.ireturn, 1) := by decide +kernel
set_option maxRecDepth 20000 in
theorem ggX6_walks_X6_at : GoodIn wsX6_walks wsX6_at := goodIn_r _ [7] (by decide +kernel) (by decide +kernel)
set_option maxRecDepth 20000 in
theorem gX6_walks_X6_at : GoodIn wsX6_walks (va_wsS RX6 44 yX6_at wsX6_at) := goodIn_app (goodIn_of _ (by decide +kernel)) ggX6_walks_X6_at
theorem dX6_walks_0 : decode cX6_walks 0 = .ok (.iconst 0, 1) := by decide +kernel
theorem dX6_walks_1 : decode cX6_walks 1 = .ok (.istore_n 3, 1) := by decide +kernel
theorem dX6_walks_2 : decode cX6_walks 2 = .ok (.iload_n 3, 1) := by decide +kernel
theorem dX6_walks_3 : decode cX6_walks 3 = .ok (.bipush 6, 2) := by decide +kernel
theorem dX6_walks_5 : decode cX6_walks 5 = .ok (.if_icmp .ge 25, 3) := by decide +kernel
theorem dX6_walks_8 : decode cX6_walks 8 = .ok (.aload_n 0, 1) := by decide +kernel
theorem dX6_walks_9 : decode cX6_walks 9 = .ok (.getfield 22, 3) := by decide +kernel
theorem dX6_walks_12 : decode cX6_walks 12 = .ok (.iload_n 3, 1) := by decide +kernel
theorem dX6_walks_13 : decode cX6_walks 13 = .ok (.iload_n 3, 1) := by decide +kernel
theorem dX6_walks_14 : decode cX6_walks 14 = .ok (.iload_n 1, 1) := by decide +kernel
theorem dX6_walks_15 : decode cX6_walks 15 = .ok (.if_icmp .ne 7, 3) := by decide +kernel
theorem dX6_walks_18 : decode cX6_walks 18 = .ok (.lconst 1, 1) := by decide +kernel
theorem dX6_walks_19 : decode cX6_walks 19 = .ok (.goto 4, 3) := by decide +kernel
theorem dX6_walks_22 : decode cX6_walks 22 = .ok (.lconst 0, 1) := by decide +kernel
theorem dX6_walks_23 : decode cX6_walks 23 = .ok (.lastore, 1) := by decide +kernel
theorem dX6_walks_24 : decode cX6_walks 24 = .ok (.iinc 3 1, 3) := by decide +kernel
theorem dX6_walks_27 : decode cX6_walks 27 = .ok (.goto (-25), 3) := by decide +kernel
theorem dX6_walks_30 : decode cX6_walks 30 = .ok (.iconst 0, 1) := by decide +kernel
theorem dX6_walks_31 : decode cX6_walks 31 = .ok (.istore_n 3, 1) := by decide +kernel
theorem dX6_walks_32 : decode cX6_walks 32 = .ok (.iload_n 3, 1) := by decide +kernel
theorem dX6_walks_33 : decode cX6_walks 33 = .ok (.iload_n 2, 1) := by decide +kernel
theorem dX6_walks_34 : decode cX6_walks 34 = .ok (.if_icmp .ge 122, 3) := by decide +kernel
theorem dX6_walks_37 : decode cX6_walks 37 = .ok (.iconst 0, 1) := by decide +kernel
theorem dX6_walks_38 : decode cX6_walks 38 = .ok (.istore 4, 2) := by decide +kernel
theorem dX6_walks_40 : decode cX6_walks 40 = .ok (.iload 4, 2) := by decide +kernel
theorem dX6_walks_42 : decode cX6_walks 42 = .ok (.aload_n 0, 1) := by decide +kernel
theorem dX6_walks_43 : decode cX6_walks 43 = .ok (.getfield 7, 3) := by decide +kernel
theorem dX6_walks_46 : decode cX6_walks 46 = .ok (.iconst 0, 1) := by decide +kernel
theorem dX6_walks_47 : decode cX6_walks 47 = .ok (.iaload, 1) := by decide +kernel
theorem dX6_walks_48 : decode cX6_walks 48 = .ok (.if_icmp .ge 68, 3) := by decide +kernel
theorem dX6_walks_51 : decode cX6_walks 51 = .ok (.aload_n 0, 1) := by decide +kernel
theorem dX6_walks_52 : decode cX6_walks 52 = .ok (.getfield 26, 3) := by decide +kernel
theorem dX6_walks_55 : decode cX6_walks 55 = .ok (.iload 4, 2) := by decide +kernel
theorem dX6_walks_57 : decode cX6_walks 57 = .ok (.lconst 0, 1) := by decide +kernel
theorem dX6_walks_58 : decode cX6_walks 58 = .ok (.lastore, 1) := by decide +kernel
theorem dX6_walks_59 : decode cX6_walks 59 = .ok (.iconst 0, 1) := by decide +kernel
theorem dX6_walks_60 : decode cX6_walks 60 = .ok (.istore 5, 2) := by decide +kernel
theorem dX6_walks_62 : decode cX6_walks 62 = .ok (.iload 5, 2) := by decide +kernel
theorem dX6_walks_64 : decode cX6_walks 64 = .ok (.aload_n 0, 1) := by decide +kernel
theorem dX6_walks_65 : decode cX6_walks 65 = .ok (.getfield 7, 3) := by decide +kernel
theorem dX6_walks_68 : decode cX6_walks 68 = .ok (.iconst 0, 1) := by decide +kernel
theorem dX6_walks_69 : decode cX6_walks 69 = .ok (.iaload, 1) := by decide +kernel
theorem dX6_walks_70 : decode cX6_walks 70 = .ok (.if_icmp .ge 40, 3) := by decide +kernel
theorem dX6_walks_73 : decode cX6_walks 73 = .ok (.aload_n 0, 1) := by decide +kernel
theorem dX6_walks_74 : decode cX6_walks 74 = .ok (.getfield 26, 3) := by decide +kernel
theorem dX6_walks_77 : decode cX6_walks 77 = .ok (.iload 4, 2) := by decide +kernel
theorem dX6_walks_79 : decode cX6_walks 79 = .ok (.dup2, 1) := by decide +kernel
theorem dX6_walks_80 : decode cX6_walks 80 = .ok (.laload, 1) := by decide +kernel
theorem dX6_walks_81 : decode cX6_walks 81 = .ok (.aload_n 0, 1) := by decide +kernel
theorem dX6_walks_82 : decode cX6_walks 82 = .ok (.getfield 22, 3) := by decide +kernel
theorem dX6_walks_85 : decode cX6_walks 85 = .ok (.iload 5, 2) := by decide +kernel
theorem dX6_walks_87 : decode cX6_walks 87 = .ok (.laload, 1) := by decide +kernel
theorem dX6_walks_88 : decode cX6_walks 88 = .ok (.aload_n 0, 1) := by decide +kernel
theorem dX6_walks_89 : decode cX6_walks 89 = .ok (.getfield 7, 3) := by decide +kernel
theorem dX6_walks_92 : decode cX6_walks 92 = .ok (.iload 5, 2) := by decide +kernel
theorem dX6_walks_94 : decode cX6_walks 94 = .ok (.iload 4, 2) := by decide +kernel
theorem dX6_walks_96 : decode cX6_walks 96 = .ok (.invokestatic 44, 3) := by decide +kernel
theorem dX6_walks_99 : decode cX6_walks 99 = .ok (.iaload, 1) := by decide +kernel
theorem dX6_walks_100 : decode cX6_walks 100 = .ok (.i2l, 1) := by decide +kernel
theorem dX6_walks_101 : decode cX6_walks 101 = .ok (.lmul, 1) := by decide +kernel
theorem dX6_walks_102 : decode cX6_walks 102 = .ok (.ladd, 1) := by decide +kernel
theorem dX6_walks_103 : decode cX6_walks 103 = .ok (.lastore, 1) := by decide +kernel
theorem dX6_walks_104 : decode cX6_walks 104 = .ok (.iinc 5 1, 3) := by decide +kernel
theorem dX6_walks_107 : decode cX6_walks 107 = .ok (.goto (-45), 3) := by decide +kernel
theorem dX6_walks_110 : decode cX6_walks 110 = .ok (.iinc 4 1, 3) := by decide +kernel
theorem dX6_walks_113 : decode cX6_walks 113 = .ok (.goto (-73), 3) := by decide +kernel
theorem dX6_walks_116 : decode cX6_walks 116 = .ok (.iconst 0, 1) := by decide +kernel
theorem dX6_walks_117 : decode cX6_walks 117 = .ok (.istore 4, 2) := by decide +kernel
theorem dX6_walks_119 : decode cX6_walks 119 = .ok (.iload 4, 2) := by decide +kernel
theorem dX6_walks_121 : decode cX6_walks 121 = .ok (.aload_n 0, 1) := by decide +kernel
theorem dX6_walks_122 : decode cX6_walks 122 = .ok (.getfield 7, 3) := by decide +kernel
theorem dX6_walks_125 : decode cX6_walks 125 = .ok (.iconst 0, 1) := by decide +kernel
theorem dX6_walks_126 : decode cX6_walks 126 = .ok (.iaload, 1) := by decide +kernel
theorem dX6_walks_127 : decode cX6_walks 127 = .ok (.if_icmp .ge 23, 3) := by decide +kernel
theorem dX6_walks_130 : decode cX6_walks 130 = .ok (.aload_n 0, 1) := by decide +kernel
theorem dX6_walks_131 : decode cX6_walks 131 = .ok (.getfield 22, 3) := by decide +kernel
theorem dX6_walks_134 : decode cX6_walks 134 = .ok (.iload 4, 2) := by decide +kernel
theorem dX6_walks_136 : decode cX6_walks 136 = .ok (.aload_n 0, 1) := by decide +kernel
theorem dX6_walks_137 : decode cX6_walks 137 = .ok (.getfield 26, 3) := by decide +kernel
theorem dX6_walks_140 : decode cX6_walks 140 = .ok (.iload 4, 2) := by decide +kernel
theorem dX6_walks_142 : decode cX6_walks 142 = .ok (.laload, 1) := by decide +kernel
theorem dX6_walks_143 : decode cX6_walks 143 = .ok (.lastore, 1) := by decide +kernel
theorem dX6_walks_144 : decode cX6_walks 144 = .ok (.iinc 4 1, 3) := by decide +kernel
theorem dX6_walks_147 : decode cX6_walks 147 = .ok (.goto (-28), 3) := by decide +kernel
theorem dX6_walks_150 : decode cX6_walks 150 = .ok (.iinc 3 1, 3) := by decide +kernel
theorem dX6_walks_153 : decode cX6_walks 153 = .ok (.goto (-121), 3) := by decide +kernel
theorem dX6_walks_156 : decode cX6_walks 156 = .ok (.return_, 1) := by decide +kernel
set_option maxRecDepth 20000 in
theorem ggX6_paths_X6_isState : GoodIn wsX6_paths wsX6_isState := goodIn_r _ [8, 9, 10, 11, 7, 12, 21, 22, 23, 24, 25, 26, 27, 28, 29, 30, 31, 32] (by decide +kernel) (by decide +kernel)
set_option maxRecDepth 20000 in
theorem gX6_paths_X6_isState : GoodIn wsX6_paths (wsV RX6 67 RX6 yX6_isState wsX6_isState) := goodIn_app (goodIn_of _ (by decide +kernel)) ggX6_paths_X6_isState
set_option maxRecDepth 20000 in
theorem ggX6_paths_X6_in : GoodIn wsX6_paths wsX6_in := goodIn_r _ [12] (by decide +kernel) (by decide +kernel)
set_option maxRecDepth 20000 in
theorem gX6_paths_X6_in : GoodIn wsX6_paths (va_wsS RX6 52 yX6_in wsX6_in) := goodIn_app (goodIn_of _ (by decide +kernel)) ggX6_paths_X6_in
set_option maxRecDepth 20000 in
theorem ggX6_paths_X6_walks : GoodIn wsX6_paths wsX6_walks := goodIn_r _ [16, 3, 9, 17, 18, 19, 7, 20, 21, 22, 23, 24, 25, 26, 27, 28, 29, 30, 31, 32] (by decide +kernel) (by decide +kernel)
set_option maxRecDepth 20000 in
theorem gX6_paths_X6_walks : GoodIn wsX6_paths (wsV RX6 94 RX6 yX6_walks wsX6_walks) := goodIn_app (goodIn_of _ (by decide +kernel)) ggX6_paths_X6_walks
theorem dX6_paths_0 : decode cX6_paths 0 = .ok (.aload_n 0, 1) := by decide +kernel
theorem dX6_paths_1 : decode cX6_paths 1 = .ok (.iload_n 1, 1) := by decide +kernel
theorem dX6_paths_2 : decode cX6_paths 2 = .ok (.invokevirtual 67, 3) := by decide +kernel
theorem dX6_paths_5 : decode cX6_paths 5 = .ok (.ifCond .eq 23, 3) := by decide +kernel
theorem dX6_paths_8 : decode cX6_paths 8 = .ok (.aload_n 0, 1) := by decide +kernel
theorem dX6_paths_9 : decode cX6_paths 9 = .ok (.iload_n 2, 1) := by decide +kernel
theorem dX6_paths_10 : decode cX6_paths 10 = .ok (.invokevirtual 67, 3) := by decide +kernel
theorem dX6_paths_13 : decode cX6_paths 13 = .ok (.ifCond .eq 15, 3) := by decide +kernel
theorem dX6_paths_16 : decode cX6_paths 16 = .ok (.iload_n 3, 1) := by decide +kernel
theorem dX6_paths_17 : decode cX6_paths 17 = .ok (.i2l, 1) := by decide +kernel
theorem dX6_paths_18 : decode cX6_paths 18 = .ok (.lconst 0, 1) := by decide +kernel
theorem dX6_paths_19 : decode cX6_paths 19 = .ok (.ldc2_w 90, 3) := by decide +kernel
theorem dX6_paths_22 : decode cX6_paths 22 = .ok (.invokestatic 52, 3) := by decide +kernel
theorem dX6_paths_25 : decode cX6_paths 25 = .ok (.ifCond .ne 7, 3) := by decide +kernel
theorem dX6_paths_28 : decode cX6_paths 28 = .ok (.ldc2_w 92, 3) := by decide +kernel
theorem dX6_paths_31 : decode cX6_paths 31 = .ok (.lreturn, 1) := by decide +kernel
theorem dX6_paths_32 : decode cX6_paths 32 = .ok (.aload_n 0, 1) := by decide +kernel
theorem dX6_paths_33 : decode cX6_paths 33 = .ok (.iload_n 1, 1) := by decide +kernel
theorem dX6_paths_34 : decode cX6_paths 34 = .ok (.iload_n 3, 1) := by decide +kernel
theorem dX6_paths_35 : decode cX6_paths 35 = .ok (.invokevirtual 94, 3) := by decide +kernel
theorem dX6_paths_38 : decode cX6_paths 38 = .ok (.aload_n 0, 1) := by decide +kernel
theorem dX6_paths_39 : decode cX6_paths 39 = .ok (.getfield 22, 3) := by decide +kernel
theorem dX6_paths_42 : decode cX6_paths 42 = .ok (.iload_n 2, 1) := by decide +kernel
theorem dX6_paths_43 : decode cX6_paths 43 = .ok (.laload, 1) := by decide +kernel
theorem dX6_paths_44 : decode cX6_paths 44 = .ok (.lreturn, 1) := by decide +kernel
set_option maxRecDepth 20000 in
theorem ggX6_lowest_X6_has : GoodIn wsX6_lowest wsX6_has := goodIn_r _ [6] (by decide +kernel) (by decide +kernel)
set_option maxRecDepth 20000 in
theorem gX6_lowest_X6_has : GoodIn wsX6_lowest (va_wsS RX6 73 yX6_has wsX6_has) := goodIn_app (goodIn_of _ (by decide +kernel)) ggX6_lowest_X6_has
theorem dX6_lowest_0 : decode cX6_lowest 0 = .ok (.iload_n 1, 1) := by decide +kernel
theorem dX6_lowest_1 : decode cX6_lowest 1 = .ok (.istore_n 2, 1) := by decide +kernel
theorem dX6_lowest_2 : decode cX6_lowest 2 = .ok (.aload_n 0, 1) := by decide +kernel
theorem dX6_lowest_3 : decode cX6_lowest 3 = .ok (.getfield 7, 3) := by decide +kernel
theorem dX6_lowest_6 : decode cX6_lowest 6 = .ok (.iconst 0, 1) := by decide +kernel
theorem dX6_lowest_7 : decode cX6_lowest 7 = .ok (.iaload, 1) := by decide +kernel
theorem dX6_lowest_8 : decode cX6_lowest 8 = .ok (.iconst 1, 1) := by decide +kernel
theorem dX6_lowest_9 : decode cX6_lowest 9 = .ok (.isub, 1) := by decide +kernel
theorem dX6_lowest_10 : decode cX6_lowest 10 = .ok (.istore_n 3, 1) := by decide +kernel
theorem dX6_lowest_11 : decode cX6_lowest 11 = .ok (.iload_n 3, 1) := by decide +kernel
theorem dX6_lowest_12 : decode cX6_lowest 12 = .ok (.ifCond .lt 46, 3) := by decide +kernel
theorem dX6_lowest_15 : decode cX6_lowest 15 = .ok (.aload_n 0, 1) := by decide +kernel
theorem dX6_lowest_16 : decode cX6_lowest 16 = .ok (.getfield 19, 3) := by decide +kernel
theorem dX6_lowest_19 : decode cX6_lowest 19 = .ok (.iload_n 3, 1) := by decide +kernel
theorem dX6_lowest_20 : decode cX6_lowest 20 = .ok (.iaload, 1) := by decide +kernel
theorem dX6_lowest_21 : decode cX6_lowest 21 = .ok (.iload_n 1, 1) := by decide +kernel
theorem dX6_lowest_22 : decode cX6_lowest 22 = .ok (.invokestatic 73, 3) := by decide +kernel
theorem dX6_lowest_25 : decode cX6_lowest 25 = .ok (.ifCond .eq 25, 3) := by decide +kernel
theorem dX6_lowest_28 : decode cX6_lowest 28 = .ok (.aload_n 0, 1) := by decide +kernel
theorem dX6_lowest_29 : decode cX6_lowest 29 = .ok (.getfield 19, 3) := by decide +kernel
theorem dX6_lowest_32 : decode cX6_lowest 32 = .ok (.iload_n 1, 1) := by decide +kernel
theorem dX6_lowest_33 : decode cX6_lowest 33 = .ok (.iaload, 1) := by decide +kernel
theorem dX6_lowest_34 : decode cX6_lowest 34 = .ok (.iload_n 3, 1) := by decide +kernel
theorem dX6_lowest_35 : decode cX6_lowest 35 = .ok (.invokestatic 73, 3) := by decide +kernel
theorem dX6_lowest_38 : decode cX6_lowest 38 = .ok (.ifCond .eq 12, 3) := by decide +kernel
theorem dX6_lowest_41 : decode cX6_lowest 41 = .ok (.iload_n 3, 1) := by decide +kernel
theorem dX6_lowest_42 : decode cX6_lowest 42 = .ok (.iload_n 2, 1) := by decide +kernel
theorem dX6_lowest_43 : decode cX6_lowest 43 = .ok (.if_icmp .ge 7, 3) := by decide +kernel
theorem dX6_lowest_46 : decode cX6_lowest 46 = .ok (.iload_n 3, 1) := by decide +kernel
theorem dX6_lowest_47 : decode cX6_lowest 47 = .ok (.goto 4, 3) := by decide +kernel
theorem dX6_lowest_50 : decode cX6_lowest 50 = .ok (.iload_n 2, 1) := by decide +kernel
theorem dX6_lowest_51 : decode cX6_lowest 51 = .ok (.istore_n 2, 1) := by decide +kernel
theorem dX6_lowest_52 : decode cX6_lowest 52 = .ok (.iinc 3 (-1), 3) := by decide +kernel
theorem dX6_lowest_55 : decode cX6_lowest 55 = .ok (.goto (-44), 3) := by decide +kernel
theorem dX6_lowest_58 : decode cX6_lowest 58 = .ok (.iload_n 2, 1) := by decide +kernel
theorem dX6_lowest_59 : decode cX6_lowest 59 = .ok (.ireturn, 1) := by decide +kernel
set_option maxRecDepth 20000 in
theorem ggX6_componentsTo_X6_reaches : GoodIn wsX6_componentsTo wsX6_reaches := goodIn_r _ [5, 6, 7, 8, 9, 4, 10, 11, 12, 13, 18, 19, 20, 21, 22, 23, 24, 25, 26, 27, 28, 29] (by decide +kernel) (by decide +kernel)
set_option maxRecDepth 20000 in
theorem gX6_componentsTo_X6_reaches : GoodIn wsX6_componentsTo (wsV RX6 77 RX6 yX6_reaches wsX6_reaches) := goodIn_app (goodIn_of _ (by decide +kernel)) ggX6_componentsTo_X6_reaches
set_option maxRecDepth 20000 in
theorem ggX6_componentsTo_X6_lowest : GoodIn wsX6_componentsTo wsX6_lowest := goodIn_r _ [17, 6, 7, 11, 12, 4, 13, 18, 19, 20, 21, 22, 23, 24, 25, 26, 27, 28, 29] (by decide +kernel) (by decide +kernel)
set_option maxRecDepth 20000 in
theorem gX6_componentsTo_X6_lowest : GoodIn wsX6_componentsTo (wsV RX6 98 RX6 yX6_lowest wsX6_lowest) := goodIn_app (goodIn_of _ (by decide +kernel)) ggX6_componentsTo_X6_lowest
theorem dX6_componentsTo_0 : decode cX6_componentsTo 0 = .ok (.aload_n 0, 1) := by decide +kernel
theorem dX6_componentsTo_1 : decode cX6_componentsTo 1 = .ok (.invokevirtual 77, 3) := by decide +kernel
theorem dX6_componentsTo_4 : decode cX6_componentsTo 4 = .ok (.iconst 0, 1) := by decide +kernel
theorem dX6_componentsTo_5 : decode cX6_componentsTo 5 = .ok (.istore_n 2, 1) := by decide +kernel
theorem dX6_componentsTo_6 : decode cX6_componentsTo 6 = .ok (.iconst 0, 1) := by decide +kernel
theorem dX6_componentsTo_7 : decode cX6_componentsTo 7 = .ok (.istore_n 3, 1) := by decide +kernel
theorem dX6_componentsTo_8 : decode cX6_componentsTo 8 = .ok (.iload_n 3, 1) := by decide +kernel
theorem dX6_componentsTo_9 : decode cX6_componentsTo 9 = .ok (.iload_n 1, 1) := by decide +kernel
theorem dX6_componentsTo_10 : decode cX6_componentsTo 10 = .ok (.if_icmp .ge 26, 3) := by decide +kernel
theorem dX6_componentsTo_13 : decode cX6_componentsTo 13 = .ok (.iload_n 2, 1) := by decide +kernel
theorem dX6_componentsTo_14 : decode cX6_componentsTo 14 = .ok (.aload_n 0, 1) := by decide +kernel
theorem dX6_componentsTo_15 : decode cX6_componentsTo 15 = .ok (.iload_n 3, 1) := by decide +kernel
theorem dX6_componentsTo_16 : decode cX6_componentsTo 16 = .ok (.invokevirtual 98, 3) := by decide +kernel
theorem dX6_componentsTo_19 : decode cX6_componentsTo 19 = .ok (.iload_n 3, 1) := by decide +kernel
theorem dX6_componentsTo_20 : decode cX6_componentsTo 20 = .ok (.if_icmp .ne 7, 3) := by decide +kernel
theorem dX6_componentsTo_23 : decode cX6_componentsTo 23 = .ok (.iconst 1, 1) := by decide +kernel
theorem dX6_componentsTo_24 : decode cX6_componentsTo 24 = .ok (.goto 4, 3) := by decide +kernel
theorem dX6_componentsTo_27 : decode cX6_componentsTo 27 = .ok (.iconst 0, 1) := by decide +kernel
theorem dX6_componentsTo_28 : decode cX6_componentsTo 28 = .ok (.iadd, 1) := by decide +kernel
theorem dX6_componentsTo_29 : decode cX6_componentsTo 29 = .ok (.istore_n 2, 1) := by decide +kernel
theorem dX6_componentsTo_30 : decode cX6_componentsTo 30 = .ok (.iinc 3 1, 3) := by decide +kernel
theorem dX6_componentsTo_33 : decode cX6_componentsTo 33 = .ok (.goto (-25), 3) := by decide +kernel
theorem dX6_componentsTo_36 : decode cX6_componentsTo 36 = .ok (.iload_n 2, 1) := by decide +kernel
theorem dX6_componentsTo_37 : decode cX6_componentsTo 37 = .ok (.ireturn, 1) := by decide +kernel
set_option maxRecDepth 20000 in
theorem ggX6_componentCount_X6_componentsTo : GoodIn wsX6_componentCount wsX6_componentsTo := goodIn_r _ [6, 7, 8, 9, 5, 10, 1, 11, 12, 13, 14, 15, 16, 17, 18, 19, 20, 21, 22, 23, 24, 25, 26, 27, 28, 29, 30, 31, 32, 33] (by decide +kernel) (by decide +kernel)
set_option maxRecDepth 20000 in
theorem gX6_componentCount_X6_componentsTo : GoodIn wsX6_componentCount (wsV RX6 102 RX6 yX6_componentsTo wsX6_componentsTo) := goodIn_app (goodIn_of _ (by decide +kernel)) ggX6_componentCount_X6_componentsTo
theorem dX6_componentCount_0 : decode cX6_componentCount 0 = .ok (.aload_n 0, 1) := by decide +kernel
theorem dX6_componentCount_1 : decode cX6_componentCount 1 = .ok (.aload_n 0, 1) := by decide +kernel
theorem dX6_componentCount_2 : decode cX6_componentCount 2 = .ok (.getfield 7, 3) := by decide +kernel
theorem dX6_componentCount_5 : decode cX6_componentCount 5 = .ok (.iconst 0, 1) := by decide +kernel
theorem dX6_componentCount_6 : decode cX6_componentCount 6 = .ok (.iaload, 1) := by decide +kernel
theorem dX6_componentCount_7 : decode cX6_componentCount 7 = .ok (.invokevirtual 102, 3) := by decide +kernel
theorem dX6_componentCount_10 : decode cX6_componentCount 10 = .ok (.ireturn, 1) := by decide +kernel
set_option maxRecDepth 20000 in
theorem ggX6_componentOf_X6_isState : GoodIn wsX6_componentOf wsX6_isState := goodIn_r _ [6, 7, 8, 9, 5, 10, 30, 31, 32, 33, 34, 35, 36, 37, 38, 39, 40, 41] (by decide +kernel) (by decide +kernel)
set_option maxRecDepth 20000 in
theorem gX6_componentOf_X6_isState : GoodIn wsX6_componentOf (wsV RX6 67 RX6 yX6_isState wsX6_isState) := goodIn_app (goodIn_of _ (by decide +kernel)) ggX6_componentOf_X6_isState
set_option maxRecDepth 20000 in
theorem ggX6_componentOf_X6_reaches : GoodIn wsX6_componentOf wsX6_reaches := goodIn_r _ [14, 7, 15, 16, 17, 5, 18, 19, 20, 21, 30, 31, 32, 33, 34, 35, 36, 37, 38, 39, 40, 41] (by decide +kernel) (by decide +kernel)
set_option maxRecDepth 20000 in
theorem gX6_componentOf_X6_reaches : GoodIn wsX6_componentOf (wsV RX6 77 RX6 yX6_reaches wsX6_reaches) := goodIn_app (goodIn_of _ (by decide +kernel)) ggX6_componentOf_X6_reaches
set_option maxRecDepth 20000 in
theorem ggX6_componentOf_X6_lowest : GoodIn wsX6_componentOf wsX6_lowest := goodIn_r _ [25, 7, 15, 19, 20, 5, 21, 30, 31, 32, 33, 34, 35, 36, 37, 38, 39, 40, 41] (by decide +kernel) (by decide +kernel)
set_option maxRecDepth 20000 in
theorem gX6_componentOf_X6_lowest : GoodIn wsX6_componentOf (wsV RX6 98 RX6 yX6_lowest wsX6_lowest) := goodIn_app (goodIn_of _ (by decide +kernel)) ggX6_componentOf_X6_lowest
set_option maxRecDepth 20000 in
theorem ggX6_componentOf_X6_componentsTo : GoodIn wsX6_componentOf wsX6_componentsTo := goodIn_r _ [29, 11, 12, 13, 5, 14, 7, 15, 16, 17, 18, 19, 20, 21, 22, 23, 24, 25, 30, 31, 32, 33, 34, 35, 36, 37, 38, 39, 40, 41] (by decide +kernel) (by decide +kernel)
set_option maxRecDepth 20000 in
theorem gX6_componentOf_X6_componentsTo : GoodIn wsX6_componentOf (wsV RX6 102 RX6 yX6_componentsTo wsX6_componentsTo) := goodIn_app (goodIn_of _ (by decide +kernel)) ggX6_componentOf_X6_componentsTo
theorem dX6_componentOf_0 : decode cX6_componentOf 0 = .ok (.aload_n 0, 1) := by decide +kernel
theorem dX6_componentOf_1 : decode cX6_componentOf 1 = .ok (.iload_n 1, 1) := by decide +kernel
theorem dX6_componentOf_2 : decode cX6_componentOf 2 = .ok (.invokevirtual 67, 3) := by decide +kernel
theorem dX6_componentOf_5 : decode cX6_componentOf 5 = .ok (.ifCond .ne 6, 3) := by decide +kernel
theorem dX6_componentOf_8 : decode cX6_componentOf 8 = .ok (.ldc 63, 2) := by decide +kernel
theorem dX6_componentOf_10 : decode cX6_componentOf 10 = .ok (.ireturn, 1) := by decide +kernel
theorem dX6_componentOf_11 : decode cX6_componentOf 11 = .ok (.aload_n 0, 1) := by decide +kernel
theorem dX6_componentOf_12 : decode cX6_componentOf 12 = .ok (.invokevirtual 77, 3) := by decide +kernel
theorem dX6_componentOf_15 : decode cX6_componentOf 15 = .ok (.aload_n 0, 1) := by decide +kernel
theorem dX6_componentOf_16 : decode cX6_componentOf 16 = .ok (.aload_n 0, 1) := by decide +kernel
theorem dX6_componentOf_17 : decode cX6_componentOf 17 = .ok (.iload_n 1, 1) := by decide +kernel
theorem dX6_componentOf_18 : decode cX6_componentOf 18 = .ok (.invokevirtual 98, 3) := by decide +kernel
theorem dX6_componentOf_21 : decode cX6_componentOf 21 = .ok (.invokevirtual 102, 3) := by decide +kernel
theorem dX6_componentOf_24 : decode cX6_componentOf 24 = .ok (.ireturn, 1) := by decide +kernel
set_option maxRecDepth 20000 in
theorem ggX6_isIrreducible_X6_componentCount : GoodIn wsX6_isIrreducible wsX6_componentCount := goodIn_r _ [6, 1, 7, 8, 9, 5, 10, 11, 12, 13, 14, 15, 16, 17, 18, 19, 20, 21, 22, 23, 24, 25, 26, 27, 28, 29, 30, 31, 32, 33, 34, 35, 36, 37] (by decide +kernel) (by decide +kernel)
set_option maxRecDepth 20000 in
theorem gX6_isIrreducible_X6_componentCount : GoodIn wsX6_isIrreducible (wsV RX6 105 RX6 yX6_componentCount wsX6_componentCount) := goodIn_app (goodIn_of _ (by decide +kernel)) ggX6_isIrreducible_X6_componentCount
theorem dX6_isIrreducible_0 : decode cX6_isIrreducible 0 = .ok (.iconst 0, 1) := by decide +kernel
theorem dX6_isIrreducible_1 : decode cX6_isIrreducible 1 = .ok (.istore_n 1, 1) := by decide +kernel
theorem dX6_isIrreducible_2 : decode cX6_isIrreducible 2 = .ok (.iconst 1, 1) := by decide +kernel
theorem dX6_isIrreducible_3 : decode cX6_isIrreducible 3 = .ok (.istore_n 2, 1) := by decide +kernel
theorem dX6_isIrreducible_4 : decode cX6_isIrreducible 4 = .ok (.iload_n 2, 1) := by decide +kernel
theorem dX6_isIrreducible_5 : decode cX6_isIrreducible 5 = .ok (.bipush 37, 2) := by decide +kernel
theorem dX6_isIrreducible_7 : decode cX6_isIrreducible 7 = .ok (.if_icmp .ge 28, 3) := by decide +kernel
theorem dX6_isIrreducible_10 : decode cX6_isIrreducible 10 = .ok (.iload_n 1, 1) := by decide +kernel
theorem dX6_isIrreducible_11 : decode cX6_isIrreducible 11 = .ok (.ifCond .ne 12, 3) := by decide +kernel
theorem dX6_isIrreducible_14 : decode cX6_isIrreducible 14 = .ok (.aload_n 0, 1) := by decide +kernel
theorem dX6_isIrreducible_15 : decode cX6_isIrreducible 15 = .ok (.getfield 7, 3) := by decide +kernel
theorem dX6_isIrreducible_18 : decode cX6_isIrreducible 18 = .ok (.iload_n 2, 1) := by decide +kernel
theorem dX6_isIrreducible_19 : decode cX6_isIrreducible 19 = .ok (.iaload, 1) := by decide +kernel
theorem dX6_isIrreducible_20 : decode cX6_isIrreducible 20 = .ok (.ifCond .le 7, 3) := by decide +kernel
theorem dX6_isIrreducible_23 : decode cX6_isIrreducible 23 = .ok (.iconst 1, 1) := by decide +kernel
theorem dX6_isIrreducible_24 : decode cX6_isIrreducible 24 = .ok (.goto 4, 3) := by decide +kernel
theorem dX6_isIrreducible_27 : decode cX6_isIrreducible 27 = .ok (.iconst 0, 1) := by decide +kernel
theorem dX6_isIrreducible_28 : decode cX6_isIrreducible 28 = .ok (.istore_n 1, 1) := by decide +kernel
theorem dX6_isIrreducible_29 : decode cX6_isIrreducible 29 = .ok (.iinc 2 1, 3) := by decide +kernel
theorem dX6_isIrreducible_32 : decode cX6_isIrreducible 32 = .ok (.goto (-28), 3) := by decide +kernel
theorem dX6_isIrreducible_35 : decode cX6_isIrreducible 35 = .ok (.iload_n 1, 1) := by decide +kernel
theorem dX6_isIrreducible_36 : decode cX6_isIrreducible 36 = .ok (.ifCond .eq 15, 3) := by decide +kernel
theorem dX6_isIrreducible_39 : decode cX6_isIrreducible 39 = .ok (.aload_n 0, 1) := by decide +kernel
theorem dX6_isIrreducible_40 : decode cX6_isIrreducible 40 = .ok (.invokevirtual 105, 3) := by decide +kernel
theorem dX6_isIrreducible_43 : decode cX6_isIrreducible 43 = .ok (.iconst 1, 1) := by decide +kernel
theorem dX6_isIrreducible_44 : decode cX6_isIrreducible 44 = .ok (.if_icmp .ne 7, 3) := by decide +kernel
theorem dX6_isIrreducible_47 : decode cX6_isIrreducible 47 = .ok (.iconst 1, 1) := by decide +kernel
theorem dX6_isIrreducible_48 : decode cX6_isIrreducible 48 = .ok (.goto 4, 3) := by decide +kernel
theorem dX6_isIrreducible_51 : decode cX6_isIrreducible 51 = .ok (.iconst 0, 1) := by decide +kernel
theorem dX6_isIrreducible_52 : decode cX6_isIrreducible 52 = .ok (.ireturn, 1) := by decide +kernel
theorem dX6_common_0 : decode cX6_common 0 = .ok (.lload_n 0, 1) := by decide +kernel
theorem dX6_common_1 : decode cX6_common 1 = .ok (.lconst 0, 1) := by decide +kernel
theorem dX6_common_2 : decode cX6_common 2 = .ok (.lcmp, 1) := by decide +kernel
theorem dX6_common_3 : decode cX6_common 3 = .ok (.ifCond .ge 8, 3) := by decide +kernel
theorem dX6_common_6 : decode cX6_common 6 = .ok (.lload_n 0, 1) := by decide +kernel
theorem dX6_common_7 : decode cX6_common 7 = .ok (.lneg, 1) := by decide +kernel
theorem dX6_common_8 : decode cX6_common 8 = .ok (.goto 4, 3) := by decide +kernel
theorem dX6_common_11 : decode cX6_common 11 = .ok (.lload_n 0, 1) := by decide +kernel
theorem dX6_common_12 : decode cX6_common 12 = .ok (.lstore 4, 2) := by decide +kernel
theorem dX6_common_14 : decode cX6_common 14 = .ok (.lload_n 2, 1) := by decide +kernel
theorem dX6_common_15 : decode cX6_common 15 = .ok (.lconst 0, 1) := by decide +kernel
theorem dX6_common_16 : decode cX6_common 16 = .ok (.lcmp, 1) := by decide +kernel
theorem dX6_common_17 : decode cX6_common 17 = .ok (.ifCond .ge 8, 3) := by decide +kernel
theorem dX6_common_20 : decode cX6_common 20 = .ok (.lload_n 2, 1) := by decide +kernel
theorem dX6_common_21 : decode cX6_common 21 = .ok (.lneg, 1) := by decide +kernel
theorem dX6_common_22 : decode cX6_common 22 = .ok (.goto 4, 3) := by decide +kernel
theorem dX6_common_25 : decode cX6_common 25 = .ok (.lload_n 2, 1) := by decide +kernel
theorem dX6_common_26 : decode cX6_common 26 = .ok (.lstore 6, 2) := by decide +kernel
theorem dX6_common_28 : decode cX6_common 28 = .ok (.lload 6, 2) := by decide +kernel
theorem dX6_common_30 : decode cX6_common 30 = .ok (.lconst 0, 1) := by decide +kernel
theorem dX6_common_31 : decode cX6_common 31 = .ok (.lcmp, 1) := by decide +kernel
theorem dX6_common_32 : decode cX6_common 32 = .ok (.ifCond .eq 21, 3) := by decide +kernel
theorem dX6_common_35 : decode cX6_common 35 = .ok (.lload 4, 2) := by decide +kernel
theorem dX6_common_37 : decode cX6_common 37 = .ok (.lload 6, 2) := by decide +kernel
theorem dX6_common_39 : decode cX6_common 39 = .ok (.lrem, 1) := by decide +kernel
theorem dX6_common_40 : decode cX6_common 40 = .ok (.lstore 8, 2) := by decide +kernel
theorem dX6_common_42 : decode cX6_common 42 = .ok (.lload 6, 2) := by decide +kernel
theorem dX6_common_44 : decode cX6_common 44 = .ok (.lstore 4, 2) := by decide +kernel
theorem dX6_common_46 : decode cX6_common 46 = .ok (.lload 8, 2) := by decide +kernel
theorem dX6_common_48 : decode cX6_common 48 = .ok (.lstore 6, 2) := by decide +kernel
theorem dX6_common_50 : decode cX6_common 50 = .ok (.goto (-22), 3) := by decide +kernel
theorem dX6_common_53 : decode cX6_common 53 = .ok (.lload 4, 2) := by decide +kernel
theorem dX6_common_55 : decode cX6_common 55 = .ok (.lreturn, 1) := by decide +kernel
set_option maxRecDepth 20000 in
theorem ggX6_periodOf_X6_isState : GoodIn wsX6_periodOf wsX6_isState := goodIn_r _ [8, 2, 9, 10, 7, 11, 21, 22, 23, 24, 25, 26, 27, 28, 29, 30, 31, 32] (by decide +kernel) (by decide +kernel)
set_option maxRecDepth 20000 in
theorem gX6_periodOf_X6_isState : GoodIn wsX6_periodOf (wsV RX6 67 RX6 yX6_isState wsX6_isState) := goodIn_app (goodIn_of _ (by decide +kernel)) ggX6_periodOf_X6_isState
set_option maxRecDepth 20000 in
theorem ggX6_periodOf_X6_has : GoodIn wsX6_periodOf wsX6_has := goodIn_r _ [14] (by decide +kernel) (by decide +kernel)
set_option maxRecDepth 20000 in
theorem gX6_periodOf_X6_has : GoodIn wsX6_periodOf (va_wsS RX6 73 yX6_has wsX6_has) := goodIn_app (goodIn_of _ (by decide +kernel)) ggX6_periodOf_X6_has
set_option maxRecDepth 20000 in
theorem ggX6_periodOf_X6_at : GoodIn wsX6_periodOf wsX6_at := goodIn_r _ [17] (by decide +kernel) (by decide +kernel)
set_option maxRecDepth 20000 in
theorem gX6_periodOf_X6_at : GoodIn wsX6_periodOf (va_wsS RX6 44 yX6_at wsX6_at) := goodIn_app (goodIn_of _ (by decide +kernel)) ggX6_periodOf_X6_at
set_option maxRecDepth 20000 in
theorem ggX6_periodOf_X6_common : GoodIn wsX6_periodOf wsX6_common := goodIn_r _ [20] (by decide +kernel) (by decide +kernel)
set_option maxRecDepth 20000 in
theorem gX6_periodOf_X6_common : GoodIn wsX6_periodOf (va_wsS RX6 108 yX6_common wsX6_common) := goodIn_app (goodIn_of _ (by decide +kernel)) ggX6_periodOf_X6_common
theorem dX6_periodOf_0 : decode cX6_periodOf 0 = .ok (.aload_n 0, 1) := by decide +kernel
theorem dX6_periodOf_1 : decode cX6_periodOf 1 = .ok (.iload_n 1, 1) := by decide +kernel
theorem dX6_periodOf_2 : decode cX6_periodOf 2 = .ok (.invokevirtual 67, 3) := by decide +kernel
theorem dX6_periodOf_5 : decode cX6_periodOf 5 = .ok (.ifCond .ne 6, 3) := by decide +kernel
theorem dX6_periodOf_8 : decode cX6_periodOf 8 = .ok (.ldc 63, 2) := by decide +kernel
theorem dX6_periodOf_10 : decode cX6_periodOf 10 = .ok (.ireturn, 1) := by decide +kernel
theorem dX6_periodOf_11 : decode cX6_periodOf 11 = .ok (.iconst 1, 1) := by decide +kernel
theorem dX6_periodOf_12 : decode cX6_periodOf 12 = .ok (.iload_n 1, 1) := by decide +kernel
theorem dX6_periodOf_13 : decode cX6_periodOf 13 = .ok (.ishl, 1) := by decide +kernel
theorem dX6_periodOf_14 : decode cX6_periodOf 14 = .ok (.istore_n 2, 1) := by decide +kernel
theorem dX6_periodOf_15 : decode cX6_periodOf 15 = .ok (.iconst 0, 1) := by decide +kernel
theorem dX6_periodOf_16 : decode cX6_periodOf 16 = .ok (.istore_n 3, 1) := by decide +kernel
theorem dX6_periodOf_17 : decode cX6_periodOf 17 = .ok (.iconst 1, 1) := by decide +kernel
theorem dX6_periodOf_18 : decode cX6_periodOf 18 = .ok (.istore 4, 2) := by decide +kernel
theorem dX6_periodOf_20 : decode cX6_periodOf 20 = .ok (.iload 4, 2) := by decide +kernel
theorem dX6_periodOf_22 : decode cX6_periodOf 22 = .ok (.bipush 24, 2) := by decide +kernel
theorem dX6_periodOf_24 : decode cX6_periodOf 24 = .ok (.if_icmp .gt 114, 3) := by decide +kernel
theorem dX6_periodOf_27 : decode cX6_periodOf 27 = .ok (.iconst 0, 1) := by decide +kernel
theorem dX6_periodOf_28 : decode cX6_periodOf 28 = .ok (.istore 5, 2) := by decide +kernel
theorem dX6_periodOf_30 : decode cX6_periodOf 30 = .ok (.iconst 0, 1) := by decide +kernel
theorem dX6_periodOf_31 : decode cX6_periodOf 31 = .ok (.istore 6, 2) := by decide +kernel
theorem dX6_periodOf_33 : decode cX6_periodOf 33 = .ok (.iload 6, 2) := by decide +kernel
theorem dX6_periodOf_35 : decode cX6_periodOf 35 = .ok (.aload_n 0, 1) := by decide +kernel
theorem dX6_periodOf_36 : decode cX6_periodOf 36 = .ok (.getfield 7, 3) := by decide +kernel
theorem dX6_periodOf_39 : decode cX6_periodOf 39 = .ok (.iconst 0, 1) := by decide +kernel
theorem dX6_periodOf_40 : decode cX6_periodOf 40 = .ok (.iaload, 1) := by decide +kernel
theorem dX6_periodOf_41 : decode cX6_periodOf 41 = .ok (.if_icmp .ge 66, 3) := by decide +kernel
theorem dX6_periodOf_44 : decode cX6_periodOf 44 = .ok (.iconst 0, 1) := by decide +kernel
theorem dX6_periodOf_45 : decode cX6_periodOf 45 = .ok (.istore 7, 2) := by decide +kernel
theorem dX6_periodOf_47 : decode cX6_periodOf 47 = .ok (.iload 7, 2) := by decide +kernel
theorem dX6_periodOf_49 : decode cX6_periodOf 49 = .ok (.aload_n 0, 1) := by decide +kernel
theorem dX6_periodOf_50 : decode cX6_periodOf 50 = .ok (.getfield 7, 3) := by decide +kernel
theorem dX6_periodOf_53 : decode cX6_periodOf 53 = .ok (.iconst 0, 1) := by decide +kernel
theorem dX6_periodOf_54 : decode cX6_periodOf 54 = .ok (.iaload, 1) := by decide +kernel
theorem dX6_periodOf_55 : decode cX6_periodOf 55 = .ok (.if_icmp .ge 46, 3) := by decide +kernel
theorem dX6_periodOf_58 : decode cX6_periodOf 58 = .ok (.iload 5, 2) := by decide +kernel
theorem dX6_periodOf_60 : decode cX6_periodOf 60 = .ok (.iload_n 2, 1) := by decide +kernel
theorem dX6_periodOf_61 : decode cX6_periodOf 61 = .ok (.iload 6, 2) := by decide +kernel
theorem dX6_periodOf_63 : decode cX6_periodOf 63 = .ok (.invokestatic 73, 3) := by decide +kernel
theorem dX6_periodOf_66 : decode cX6_periodOf 66 = .ok (.ifCond .eq 25, 3) := by decide +kernel
theorem dX6_periodOf_69 : decode cX6_periodOf 69 = .ok (.aload_n 0, 1) := by decide +kernel
theorem dX6_periodOf_70 : decode cX6_periodOf 70 = .ok (.getfield 7, 3) := by decide +kernel
theorem dX6_periodOf_73 : decode cX6_periodOf 73 = .ok (.iload 6, 2) := by decide +kernel
theorem dX6_periodOf_75 : decode cX6_periodOf 75 = .ok (.iload 7, 2) := by decide +kernel
theorem dX6_periodOf_77 : decode cX6_periodOf 77 = .ok (.invokestatic 44, 3) := by decide +kernel
theorem dX6_periodOf_80 : decode cX6_periodOf 80 = .ok (.iaload, 1) := by decide +kernel
theorem dX6_periodOf_81 : decode cX6_periodOf 81 = .ok (.ifCond .le 10, 3) := by decide +kernel
theorem dX6_periodOf_84 : decode cX6_periodOf 84 = .ok (.iconst 1, 1) := by decide +kernel
theorem dX6_periodOf_85 : decode cX6_periodOf 85 = .ok (.iload 7, 2) := by decide +kernel
theorem dX6_periodOf_87 : decode cX6_periodOf 87 = .ok (.ishl, 1) := by decide +kernel
theorem dX6_periodOf_88 : decode cX6_periodOf 88 = .ok (.goto 4, 3) := by decide +kernel
theorem dX6_periodOf_91 : decode cX6_periodOf 91 = .ok (.iconst 0, 1) := by decide +kernel
theorem dX6_periodOf_92 : decode cX6_periodOf 92 = .ok (.ior, 1) := by decide +kernel
theorem dX6_periodOf_93 : decode cX6_periodOf 93 = .ok (.istore 5, 2) := by decide +kernel
theorem dX6_periodOf_95 : decode cX6_periodOf 95 = .ok (.iinc 7 1, 3) := by decide +kernel
theorem dX6_periodOf_98 : decode cX6_periodOf 98 = .ok (.goto (-51), 3) := by decide +kernel
theorem dX6_periodOf_101 : decode cX6_periodOf 101 = .ok (.iinc 6 1, 3) := by decide +kernel
theorem dX6_periodOf_104 : decode cX6_periodOf 104 = .ok (.goto (-71), 3) := by decide +kernel
theorem dX6_periodOf_107 : decode cX6_periodOf 107 = .ok (.iload 5, 2) := by decide +kernel
theorem dX6_periodOf_109 : decode cX6_periodOf 109 = .ok (.istore_n 2, 1) := by decide +kernel
theorem dX6_periodOf_110 : decode cX6_periodOf 110 = .ok (.iload_n 2, 1) := by decide +kernel
theorem dX6_periodOf_111 : decode cX6_periodOf 111 = .ok (.iload_n 1, 1) := by decide +kernel
theorem dX6_periodOf_112 : decode cX6_periodOf 112 = .ok (.invokestatic 73, 3) := by decide +kernel
theorem dX6_periodOf_115 : decode cX6_periodOf 115 = .ok (.ifCond .eq 15, 3) := by decide +kernel
theorem dX6_periodOf_118 : decode cX6_periodOf 118 = .ok (.iload_n 3, 1) := by decide +kernel
theorem dX6_periodOf_119 : decode cX6_periodOf 119 = .ok (.i2l, 1) := by decide +kernel
theorem dX6_periodOf_120 : decode cX6_periodOf 120 = .ok (.iload 4, 2) := by decide +kernel
theorem dX6_periodOf_122 : decode cX6_periodOf 122 = .ok (.i2l, 1) := by decide +kernel
theorem dX6_periodOf_123 : decode cX6_periodOf 123 = .ok (.invokestatic 108, 3) := by decide +kernel
theorem dX6_periodOf_126 : decode cX6_periodOf 126 = .ok (.l2i, 1) := by decide +kernel
theorem dX6_periodOf_127 : decode cX6_periodOf 127 = .ok (.goto 4, 3) := by decide +kernel
theorem dX6_periodOf_130 : decode cX6_periodOf 130 = .ok (.iload_n 3, 1) := by decide +kernel
theorem dX6_periodOf_131 : decode cX6_periodOf 131 = .ok (.istore_n 3, 1) := by decide +kernel
theorem dX6_periodOf_132 : decode cX6_periodOf 132 = .ok (.iinc 4 1, 3) := by decide +kernel
theorem dX6_periodOf_135 : decode cX6_periodOf 135 = .ok (.goto (-115), 3) := by decide +kernel
theorem dX6_periodOf_138 : decode cX6_periodOf 138 = .ok (.iload_n 3, 1) := by decide +kernel
theorem dX6_periodOf_139 : decode cX6_periodOf 139 = .ok (.ifCond .ne 8, 3) := by decide +kernel
theorem dX6_periodOf_142 : decode cX6_periodOf 142 = .ok (.ldc 112, 2) := by decide +kernel
theorem dX6_periodOf_144 : decode cX6_periodOf 144 = .ok (.goto 4, 3) := by decide +kernel
theorem dX6_periodOf_147 : decode cX6_periodOf 147 = .ok (.iload_n 3, 1) := by decide +kernel
theorem dX6_periodOf_148 : decode cX6_periodOf 148 = .ok (.ireturn, 1) := by decide +kernel
set_option maxRecDepth 20000 in
theorem ggX6_blocks_X6_in : GoodIn wsX6_blocks wsX6_in := goodIn_r _ [8] (by decide +kernel) (by decide +kernel)
set_option maxRecDepth 20000 in
theorem gX6_blocks_X6_in : GoodIn wsX6_blocks (va_wsS RX6 52 yX6_in wsX6_in) := goodIn_app (goodIn_of _ (by decide +kernel)) ggX6_blocks_X6_in
set_option maxRecDepth 20000 in
theorem ggX6_blocks_X6_walks : GoodIn wsX6_blocks wsX6_walks := goodIn_r _ [12, 4, 3, 13, 14, 15, 7, 16, 17, 18, 19, 20, 21, 22, 23, 24, 25, 26, 27, 28] (by decide +kernel) (by decide +kernel)
set_option maxRecDepth 20000 in
theorem gX6_blocks_X6_walks : GoodIn wsX6_blocks (wsV RX6 94 RX6 yX6_walks wsX6_walks) := goodIn_app (goodIn_of _ (by decide +kernel)) ggX6_blocks_X6_walks
theorem dX6_blocks_0 : decode cX6_blocks 0 = .ok (.iload_n 1, 1) := by decide +kernel
theorem dX6_blocks_1 : decode cX6_blocks 1 = .ok (.i2l, 1) := by decide +kernel
theorem dX6_blocks_2 : decode cX6_blocks 2 = .ok (.lconst 1, 1) := by decide +kernel
theorem dX6_blocks_3 : decode cX6_blocks 3 = .ok (.ldc2_w 90, 3) := by decide +kernel
theorem dX6_blocks_6 : decode cX6_blocks 6 = .ok (.invokestatic 52, 3) := by decide +kernel
theorem dX6_blocks_9 : decode cX6_blocks 9 = .ok (.ifCond .ne 7, 3) := by decide +kernel
theorem dX6_blocks_12 : decode cX6_blocks 12 = .ok (.ldc2_w 92, 3) := by decide +kernel
theorem dX6_blocks_15 : decode cX6_blocks 15 = .ok (.lreturn, 1) := by decide +kernel
theorem dX6_blocks_16 : decode cX6_blocks 16 = .ok (.lconst 0, 1) := by decide +kernel
theorem dX6_blocks_17 : decode cX6_blocks 17 = .ok (.lstore_n 2, 1) := by decide +kernel
theorem dX6_blocks_18 : decode cX6_blocks 18 = .ok (.iconst 0, 1) := by decide +kernel
theorem dX6_blocks_19 : decode cX6_blocks 19 = .ok (.istore 4, 2) := by decide +kernel
theorem dX6_blocks_21 : decode cX6_blocks 21 = .ok (.iload 4, 2) := by decide +kernel
theorem dX6_blocks_23 : decode cX6_blocks 23 = .ok (.aload_n 0, 1) := by decide +kernel
theorem dX6_blocks_24 : decode cX6_blocks 24 = .ok (.getfield 7, 3) := by decide +kernel
theorem dX6_blocks_27 : decode cX6_blocks 27 = .ok (.iconst 0, 1) := by decide +kernel
theorem dX6_blocks_28 : decode cX6_blocks 28 = .ok (.iaload, 1) := by decide +kernel
theorem dX6_blocks_29 : decode cX6_blocks 29 = .ok (.if_icmp .ge 46, 3) := by decide +kernel
theorem dX6_blocks_32 : decode cX6_blocks 32 = .ok (.aload_n 0, 1) := by decide +kernel
theorem dX6_blocks_33 : decode cX6_blocks 33 = .ok (.iload 4, 2) := by decide +kernel
theorem dX6_blocks_35 : decode cX6_blocks 35 = .ok (.iload_n 1, 1) := by decide +kernel
theorem dX6_blocks_36 : decode cX6_blocks 36 = .ok (.invokevirtual 94, 3) := by decide +kernel
theorem dX6_blocks_39 : decode cX6_blocks 39 = .ok (.iconst 0, 1) := by decide +kernel
theorem dX6_blocks_40 : decode cX6_blocks 40 = .ok (.istore 5, 2) := by decide +kernel
theorem dX6_blocks_42 : decode cX6_blocks 42 = .ok (.iload 5, 2) := by decide +kernel
theorem dX6_blocks_44 : decode cX6_blocks 44 = .ok (.aload_n 0, 1) := by decide +kernel
theorem dX6_blocks_45 : decode cX6_blocks 45 = .ok (.getfield 7, 3) := by decide +kernel
theorem dX6_blocks_48 : decode cX6_blocks 48 = .ok (.iconst 0, 1) := by decide +kernel
theorem dX6_blocks_49 : decode cX6_blocks 49 = .ok (.iaload, 1) := by decide +kernel
theorem dX6_blocks_50 : decode cX6_blocks 50 = .ok (.if_icmp .ge 19, 3) := by decide +kernel
theorem dX6_blocks_53 : decode cX6_blocks 53 = .ok (.lload_n 2, 1) := by decide +kernel
theorem dX6_blocks_54 : decode cX6_blocks 54 = .ok (.aload_n 0, 1) := by decide +kernel
theorem dX6_blocks_55 : decode cX6_blocks 55 = .ok (.getfield 22, 3) := by decide +kernel
theorem dX6_blocks_58 : decode cX6_blocks 58 = .ok (.iload 5, 2) := by decide +kernel
theorem dX6_blocks_60 : decode cX6_blocks 60 = .ok (.laload, 1) := by decide +kernel
theorem dX6_blocks_61 : decode cX6_blocks 61 = .ok (.ladd, 1) := by decide +kernel
theorem dX6_blocks_62 : decode cX6_blocks 62 = .ok (.lstore_n 2, 1) := by decide +kernel
theorem dX6_blocks_63 : decode cX6_blocks 63 = .ok (.iinc 5 1, 3) := by decide +kernel
theorem dX6_blocks_66 : decode cX6_blocks 66 = .ok (.goto (-24), 3) := by decide +kernel
theorem dX6_blocks_69 : decode cX6_blocks 69 = .ok (.iinc 4 1, 3) := by decide +kernel
theorem dX6_blocks_72 : decode cX6_blocks 72 = .ok (.goto (-51), 3) := by decide +kernel
theorem dX6_blocks_75 : decode cX6_blocks 75 = .ok (.lload_n 2, 1) := by decide +kernel
theorem dX6_blocks_76 : decode cX6_blocks 76 = .ok (.lreturn, 1) := by decide +kernel
set_option maxRecDepth 20000 in
theorem ggX6_periodic_X6_walks : GoodIn wsX6_periodic wsX6_walks := goodIn_r _ [7, 2, 1, 8, 9, 10, 6, 11, 12, 13, 14, 15, 16, 17, 18, 19, 20, 21, 22, 23] (by decide +kernel) (by decide +kernel)
set_option maxRecDepth 20000 in
theorem gX6_periodic_X6_walks : GoodIn wsX6_periodic (wsV RX6 94 RX6 yX6_walks wsX6_walks) := goodIn_app (goodIn_of _ (by decide +kernel)) ggX6_periodic_X6_walks
theorem dX6_periodic_0 : decode cX6_periodic 0 = .ok (.lconst 0, 1) := by decide +kernel
theorem dX6_periodic_1 : decode cX6_periodic 1 = .ok (.lstore_n 2, 1) := by decide +kernel
theorem dX6_periodic_2 : decode cX6_periodic 2 = .ok (.iconst 0, 1) := by decide +kernel
theorem dX6_periodic_3 : decode cX6_periodic 3 = .ok (.istore 4, 2) := by decide +kernel
theorem dX6_periodic_5 : decode cX6_periodic 5 = .ok (.iload 4, 2) := by decide +kernel
theorem dX6_periodic_7 : decode cX6_periodic 7 = .ok (.aload_n 0, 1) := by decide +kernel
theorem dX6_periodic_8 : decode cX6_periodic 8 = .ok (.getfield 7, 3) := by decide +kernel
theorem dX6_periodic_11 : decode cX6_periodic 11 = .ok (.iconst 0, 1) := by decide +kernel
theorem dX6_periodic_12 : decode cX6_periodic 12 = .ok (.iaload, 1) := by decide +kernel
theorem dX6_periodic_13 : decode cX6_periodic 13 = .ok (.if_icmp .ge 26, 3) := by decide +kernel
theorem dX6_periodic_16 : decode cX6_periodic 16 = .ok (.aload_n 0, 1) := by decide +kernel
theorem dX6_periodic_17 : decode cX6_periodic 17 = .ok (.iload 4, 2) := by decide +kernel
theorem dX6_periodic_19 : decode cX6_periodic 19 = .ok (.iload_n 1, 1) := by decide +kernel
theorem dX6_periodic_20 : decode cX6_periodic 20 = .ok (.invokevirtual 94, 3) := by decide +kernel
theorem dX6_periodic_23 : decode cX6_periodic 23 = .ok (.lload_n 2, 1) := by decide +kernel
theorem dX6_periodic_24 : decode cX6_periodic 24 = .ok (.aload_n 0, 1) := by decide +kernel
theorem dX6_periodic_25 : decode cX6_periodic 25 = .ok (.getfield 22, 3) := by decide +kernel
theorem dX6_periodic_28 : decode cX6_periodic 28 = .ok (.iload 4, 2) := by decide +kernel
theorem dX6_periodic_30 : decode cX6_periodic 30 = .ok (.laload, 1) := by decide +kernel
theorem dX6_periodic_31 : decode cX6_periodic 31 = .ok (.ladd, 1) := by decide +kernel
theorem dX6_periodic_32 : decode cX6_periodic 32 = .ok (.lstore_n 2, 1) := by decide +kernel
theorem dX6_periodic_33 : decode cX6_periodic 33 = .ok (.iinc 4 1, 3) := by decide +kernel
theorem dX6_periodic_36 : decode cX6_periodic 36 = .ok (.goto (-31), 3) := by decide +kernel
theorem dX6_periodic_39 : decode cX6_periodic 39 = .ok (.lload_n 2, 1) := by decide +kernel
theorem dX6_periodic_40 : decode cX6_periodic 40 = .ok (.lreturn, 1) := by decide +kernel
set_option maxRecDepth 20000 in
theorem ggX6_periodicPoints_X6_in : GoodIn wsX6_periodicPoints wsX6_in := goodIn_r _ [6] (by decide +kernel) (by decide +kernel)
set_option maxRecDepth 20000 in
theorem gX6_periodicPoints_X6_in : GoodIn wsX6_periodicPoints (va_wsS RX6 52 yX6_in wsX6_in) := goodIn_app (goodIn_of _ (by decide +kernel)) ggX6_periodicPoints_X6_in
set_option maxRecDepth 20000 in
theorem ggX6_periodicPoints_X6_periodic : GoodIn wsX6_periodicPoints wsX6_periodic := goodIn_r _ [10, 11, 12, 13, 14, 15, 5, 16, 17, 18, 19, 20, 21, 22, 23, 24, 25, 26, 27, 28, 29, 30, 31, 32] (by decide +kernel) (by decide +kernel)
set_option maxRecDepth 20000 in
theorem gX6_periodicPoints_X6_periodic : GoodIn wsX6_periodicPoints (wsV RX6 113 RX6 yX6_periodic wsX6_periodic) := goodIn_app (goodIn_of _ (by decide +kernel)) ggX6_periodicPoints_X6_periodic
theorem dX6_periodicPoints_0 : decode cX6_periodicPoints 0 = .ok (.iload_n 1, 1) := by decide +kernel
theorem dX6_periodicPoints_1 : decode cX6_periodicPoints 1 = .ok (.i2l, 1) := by decide +kernel
theorem dX6_periodicPoints_2 : decode cX6_periodicPoints 2 = .ok (.lconst 1, 1) := by decide +kernel
theorem dX6_periodicPoints_3 : decode cX6_periodicPoints 3 = .ok (.ldc2_w 90, 3) := by decide +kernel
theorem dX6_periodicPoints_6 : decode cX6_periodicPoints 6 = .ok (.invokestatic 52, 3) := by decide +kernel
theorem dX6_periodicPoints_9 : decode cX6_periodicPoints 9 = .ok (.ifCond .eq 11, 3) := by decide +kernel
theorem dX6_periodicPoints_12 : decode cX6_periodicPoints 12 = .ok (.aload_n 0, 1) := by decide +kernel
theorem dX6_periodicPoints_13 : decode cX6_periodicPoints 13 = .ok (.iload_n 1, 1) := by decide +kernel
theorem dX6_periodicPoints_14 : decode cX6_periodicPoints 14 = .ok (.invokevirtual 113, 3) := by decide +kernel
theorem dX6_periodicPoints_17 : decode cX6_periodicPoints 17 = .ok (.goto 6, 3) := by decide +kernel
theorem dX6_periodicPoints_20 : decode cX6_periodicPoints 20 = .ok (.ldc2_w 92, 3) := by decide +kernel
theorem dX6_periodicPoints_23 : decode cX6_periodicPoints 23 = .ok (.lreturn, 1) := by decide +kernel
set_option maxRecDepth 20000 in
theorem ggX6_orbits_X6_in : GoodIn wsX6_orbits wsX6_in := goodIn_r _ [7] (by decide +kernel) (by decide +kernel)
set_option maxRecDepth 20000 in
theorem gX6_orbits_X6_in : GoodIn wsX6_orbits (va_wsS RX6 52 yX6_in wsX6_in) := goodIn_app (goodIn_of _ (by decide +kernel)) ggX6_orbits_X6_in
set_option maxRecDepth 20000 in
theorem ggX6_orbits_X6_periodic : GoodIn wsX6_orbits wsX6_periodic := goodIn_r _ [11, 12, 13, 14, 15, 16, 6, 17, 18, 19, 20, 21, 22, 23, 24, 25, 26, 27, 28, 29, 30, 31, 32, 33] (by decide +kernel) (by decide +kernel)
set_option maxRecDepth 20000 in
theorem gX6_orbits_X6_periodic : GoodIn wsX6_orbits (wsV RX6 113 RX6 yX6_periodic wsX6_periodic) := goodIn_app (goodIn_of _ (by decide +kernel)) ggX6_orbits_X6_periodic
theorem dX6_orbits_0 : decode cX6_orbits 0 = .ok (.iload_n 1, 1) := by decide +kernel
theorem dX6_orbits_1 : decode cX6_orbits 1 = .ok (.i2l, 1) := by decide +kernel
theorem dX6_orbits_2 : decode cX6_orbits 2 = .ok (.lconst 1, 1) := by decide +kernel
theorem dX6_orbits_3 : decode cX6_orbits 3 = .ok (.ldc2_w 90, 3) := by decide +kernel
theorem dX6_orbits_6 : decode cX6_orbits 6 = .ok (.invokestatic 52, 3) := by decide +kernel
theorem dX6_orbits_9 : decode cX6_orbits 9 = .ok (.ifCond .ne 7, 3) := by decide +kernel
theorem dX6_orbits_12 : decode cX6_orbits 12 = .ok (.ldc2_w 92, 3) := by decide +kernel
theorem dX6_orbits_15 : decode cX6_orbits 15 = .ok (.lreturn, 1) := by decide +kernel
theorem dX6_orbits_16 : decode cX6_orbits 16 = .ok (.iconst 1, 1) := by decide +kernel
theorem dX6_orbits_17 : decode cX6_orbits 17 = .ok (.istore_n 2, 1) := by decide +kernel
theorem dX6_orbits_18 : decode cX6_orbits 18 = .ok (.iload_n 2, 1) := by decide +kernel
theorem dX6_orbits_19 : decode cX6_orbits 19 = .ok (.iload_n 1, 1) := by decide +kernel
theorem dX6_orbits_20 : decode cX6_orbits 20 = .ok (.if_icmp .gt 58, 3) := by decide +kernel
theorem dX6_orbits_23 : decode cX6_orbits 23 = .ok (.aload_n 0, 1) := by decide +kernel
theorem dX6_orbits_24 : decode cX6_orbits 24 = .ok (.getfield 29, 3) := by decide +kernel
theorem dX6_orbits_27 : decode cX6_orbits 27 = .ok (.iload_n 2, 1) := by decide +kernel
theorem dX6_orbits_28 : decode cX6_orbits 28 = .ok (.aload_n 0, 1) := by decide +kernel
theorem dX6_orbits_29 : decode cX6_orbits 29 = .ok (.iload_n 2, 1) := by decide +kernel
theorem dX6_orbits_30 : decode cX6_orbits 30 = .ok (.invokevirtual 113, 3) := by decide +kernel
theorem dX6_orbits_33 : decode cX6_orbits 33 = .ok (.lastore, 1) := by decide +kernel
theorem dX6_orbits_34 : decode cX6_orbits 34 = .ok (.iconst 1, 1) := by decide +kernel
theorem dX6_orbits_35 : decode cX6_orbits 35 = .ok (.istore_n 3, 1) := by decide +kernel
theorem dX6_orbits_36 : decode cX6_orbits 36 = .ok (.iload_n 3, 1) := by decide +kernel
theorem dX6_orbits_37 : decode cX6_orbits 37 = .ok (.iload_n 2, 1) := by decide +kernel
theorem dX6_orbits_38 : decode cX6_orbits 38 = .ok (.if_icmp .ge 34, 3) := by decide +kernel
theorem dX6_orbits_41 : decode cX6_orbits 41 = .ok (.aload_n 0, 1) := by decide +kernel
theorem dX6_orbits_42 : decode cX6_orbits 42 = .ok (.getfield 29, 3) := by decide +kernel
theorem dX6_orbits_45 : decode cX6_orbits 45 = .ok (.iload_n 2, 1) := by decide +kernel
theorem dX6_orbits_46 : decode cX6_orbits 46 = .ok (.dup2, 1) := by decide +kernel
theorem dX6_orbits_47 : decode cX6_orbits 47 = .ok (.laload, 1) := by decide +kernel
theorem dX6_orbits_48 : decode cX6_orbits 48 = .ok (.iload_n 2, 1) := by decide +kernel
theorem dX6_orbits_49 : decode cX6_orbits 49 = .ok (.iload_n 3, 1) := by decide +kernel
theorem dX6_orbits_50 : decode cX6_orbits 50 = .ok (.irem, 1) := by decide +kernel
theorem dX6_orbits_51 : decode cX6_orbits 51 = .ok (.ifCond .ne 12, 3) := by decide +kernel
theorem dX6_orbits_54 : decode cX6_orbits 54 = .ok (.aload_n 0, 1) := by decide +kernel
theorem dX6_orbits_55 : decode cX6_orbits 55 = .ok (.getfield 29, 3) := by decide +kernel
theorem dX6_orbits_58 : decode cX6_orbits 58 = .ok (.iload_n 3, 1) := by decide +kernel
theorem dX6_orbits_59 : decode cX6_orbits 59 = .ok (.laload, 1) := by decide +kernel
theorem dX6_orbits_60 : decode cX6_orbits 60 = .ok (.goto 4, 3) := by decide +kernel
theorem dX6_orbits_63 : decode cX6_orbits 63 = .ok (.lconst 0, 1) := by decide +kernel
theorem dX6_orbits_64 : decode cX6_orbits 64 = .ok (.lsub, 1) := by decide +kernel
theorem dX6_orbits_65 : decode cX6_orbits 65 = .ok (.lastore, 1) := by decide +kernel
theorem dX6_orbits_66 : decode cX6_orbits 66 = .ok (.iinc 3 1, 3) := by decide +kernel
theorem dX6_orbits_69 : decode cX6_orbits 69 = .ok (.goto (-33), 3) := by decide +kernel
theorem dX6_orbits_72 : decode cX6_orbits 72 = .ok (.iinc 2 1, 3) := by decide +kernel
theorem dX6_orbits_75 : decode cX6_orbits 75 = .ok (.goto (-57), 3) := by decide +kernel
theorem dX6_orbits_78 : decode cX6_orbits 78 = .ok (.aload_n 0, 1) := by decide +kernel
theorem dX6_orbits_79 : decode cX6_orbits 79 = .ok (.getfield 29, 3) := by decide +kernel
theorem dX6_orbits_82 : decode cX6_orbits 82 = .ok (.iload_n 1, 1) := by decide +kernel
theorem dX6_orbits_83 : decode cX6_orbits 83 = .ok (.laload, 1) := by decide +kernel
theorem dX6_orbits_84 : decode cX6_orbits 84 = .ok (.iload_n 1, 1) := by decide +kernel
theorem dX6_orbits_85 : decode cX6_orbits 85 = .ok (.i2l, 1) := by decide +kernel
theorem dX6_orbits_86 : decode cX6_orbits 86 = .ok (.ldiv, 1) := by decide +kernel
theorem dX6_orbits_87 : decode cX6_orbits 87 = .ok (.lreturn, 1) := by decide +kernel
theorem dX6_ones_0 : decode cX6_ones 0 = .ok (.iconst 0, 1) := by decide +kernel
theorem dX6_ones_1 : decode cX6_ones 1 = .ok (.istore_n 1, 1) := by decide +kernel
theorem dX6_ones_2 : decode cX6_ones 2 = .ok (.iload_n 0, 1) := by decide +kernel
theorem dX6_ones_3 : decode cX6_ones 3 = .ok (.istore_n 2, 1) := by decide +kernel
theorem dX6_ones_4 : decode cX6_ones 4 = .ok (.iload_n 2, 1) := by decide +kernel
theorem dX6_ones_5 : decode cX6_ones 5 = .ok (.ifCond .eq 15, 3) := by decide +kernel
theorem dX6_ones_8 : decode cX6_ones 8 = .ok (.iinc 1 1, 3) := by decide +kernel
theorem dX6_ones_11 : decode cX6_ones 11 = .ok (.iload_n 2, 1) := by decide +kernel
theorem dX6_ones_12 : decode cX6_ones 12 = .ok (.iload_n 2, 1) := by decide +kernel
theorem dX6_ones_13 : decode cX6_ones 13 = .ok (.iconst 1, 1) := by decide +kernel
theorem dX6_ones_14 : decode cX6_ones 14 = .ok (.isub, 1) := by decide +kernel
theorem dX6_ones_15 : decode cX6_ones 15 = .ok (.iand, 1) := by decide +kernel
theorem dX6_ones_16 : decode cX6_ones 16 = .ok (.istore_n 2, 1) := by decide +kernel
theorem dX6_ones_17 : decode cX6_ones 17 = .ok (.goto (-13), 3) := by decide +kernel
theorem dX6_ones_20 : decode cX6_ones 20 = .ok (.iload_n 1, 1) := by decide +kernel
theorem dX6_ones_21 : decode cX6_ones 21 = .ok (.ireturn, 1) := by decide +kernel
set_option maxRecDepth 20000 in
theorem ggX6_lays_X6_at : GoodIn wsX6_lays wsX6_at := goodIn_r _ [6] (by decide +kernel) (by decide +kernel)
set_option maxRecDepth 20000 in
theorem gX6_lays_X6_at : GoodIn wsX6_lays (va_wsS RX6 44 yX6_at wsX6_at) := goodIn_app (goodIn_of _ (by decide +kernel)) ggX6_lays_X6_at
theorem dX6_lays_0 : decode cX6_lays 0 = .ok (.iconst 0, 1) := by decide +kernel
theorem dX6_lays_1 : decode cX6_lays 1 = .ok (.istore 4, 2) := by decide +kernel
theorem dX6_lays_3 : decode cX6_lays 3 = .ok (.iload 4, 2) := by decide +kernel
theorem dX6_lays_5 : decode cX6_lays 5 = .ok (.bipush 6, 2) := by decide +kernel
theorem dX6_lays_7 : decode cX6_lays 7 = .ok (.if_icmp .ge 70, 3) := by decide +kernel
theorem dX6_lays_10 : decode cX6_lays 10 = .ok (.iconst 0, 1) := by decide +kernel
theorem dX6_lays_11 : decode cX6_lays 11 = .ok (.istore 5, 2) := by decide +kernel
theorem dX6_lays_13 : decode cX6_lays 13 = .ok (.iload 5, 2) := by decide +kernel
theorem dX6_lays_15 : decode cX6_lays 15 = .ok (.bipush 6, 2) := by decide +kernel
theorem dX6_lays_17 : decode cX6_lays 17 = .ok (.if_icmp .ge 54, 3) := by decide +kernel
theorem dX6_lays_20 : decode cX6_lays 20 = .ok (.aload_n 0, 1) := by decide +kernel
theorem dX6_lays_21 : decode cX6_lays 21 = .ok (.getfield 32, 3) := by decide +kernel
theorem dX6_lays_24 : decode cX6_lays 24 = .ok (.bipush 6, 2) := by decide +kernel
theorem dX6_lays_26 : decode cX6_lays 26 = .ok (.iload 4, 2) := by decide +kernel
theorem dX6_lays_28 : decode cX6_lays 28 = .ok (.imul, 1) := by decide +kernel
theorem dX6_lays_29 : decode cX6_lays 29 = .ok (.iload 5, 2) := by decide +kernel
theorem dX6_lays_31 : decode cX6_lays 31 = .ok (.iadd, 1) := by decide +kernel
theorem dX6_lays_32 : decode cX6_lays 32 = .ok (.iload 4, 2) := by decide +kernel
theorem dX6_lays_34 : decode cX6_lays 34 = .ok (.iload 5, 2) := by decide +kernel
theorem dX6_lays_36 : decode cX6_lays 36 = .ok (.if_icmp .ne 7, 3) := by decide +kernel
theorem dX6_lays_39 : decode cX6_lays 39 = .ok (.iload_n 2, 1) := by decide +kernel
theorem dX6_lays_40 : decode cX6_lays 40 = .ok (.goto 4, 3) := by decide +kernel
theorem dX6_lays_43 : decode cX6_lays 43 = .ok (.iconst 0, 1) := by decide +kernel
theorem dX6_lays_44 : decode cX6_lays 44 = .ok (.i2l, 1) := by decide +kernel
theorem dX6_lays_45 : decode cX6_lays 45 = .ok (.iload_n 3, 1) := by decide +kernel
theorem dX6_lays_46 : decode cX6_lays 46 = .ok (.i2l, 1) := by decide +kernel
theorem dX6_lays_47 : decode cX6_lays 47 = .ok (.aload_n 0, 1) := by decide +kernel
theorem dX6_lays_48 : decode cX6_lays 48 = .ok (.getfield 7, 3) := by decide +kernel
theorem dX6_lays_51 : decode cX6_lays 51 = .ok (.iload_n 1, 1) := by decide +kernel
theorem dX6_lays_52 : decode cX6_lays 52 = .ok (.iload 4, 2) := by decide +kernel
theorem dX6_lays_54 : decode cX6_lays 54 = .ok (.iload 5, 2) := by decide +kernel
theorem dX6_lays_56 : decode cX6_lays 56 = .ok (.invokestatic 44, 3) := by decide +kernel
theorem dX6_lays_59 : decode cX6_lays 59 = .ok (.iadd, 1) := by decide +kernel
theorem dX6_lays_60 : decode cX6_lays 60 = .ok (.iaload, 1) := by decide +kernel
theorem dX6_lays_61 : decode cX6_lays 61 = .ok (.i2l, 1) := by decide +kernel
theorem dX6_lays_62 : decode cX6_lays 62 = .ok (.lmul, 1) := by decide +kernel
theorem dX6_lays_63 : decode cX6_lays 63 = .ok (.lsub, 1) := by decide +kernel
theorem dX6_lays_64 : decode cX6_lays 64 = .ok (.lastore, 1) := by decide +kernel
theorem dX6_lays_65 : decode cX6_lays 65 = .ok (.iinc 5 1, 3) := by decide +kernel
theorem dX6_lays_68 : decode cX6_lays 68 = .ok (.goto (-55), 3) := by decide +kernel
theorem dX6_lays_71 : decode cX6_lays 71 = .ok (.iinc 4 1, 3) := by decide +kernel
theorem dX6_lays_74 : decode cX6_lays 74 = .ok (.goto (-71), 3) := by decide +kernel
theorem dX6_lays_77 : decode cX6_lays 77 = .ok (.return_, 1) := by decide +kernel
set_option maxRecDepth 20000 in
theorem ggX6_minor_X6_ones : GoodIn wsX6_minor wsX6_ones := goodIn_r _ [6] (by decide +kernel) (by decide +kernel)
set_option maxRecDepth 20000 in
theorem gX6_minor_X6_ones : GoodIn wsX6_minor (va_wsS RX6 117 yX6_ones wsX6_ones) := goodIn_app (goodIn_of _ (by decide +kernel)) ggX6_minor_X6_ones
set_option maxRecDepth 20000 in
theorem ggX6_minor_X6_rowAt : GoodIn wsX6_minor wsX6_rowAt := goodIn_r _ [9, 10, 11, 5, 12] (by decide +kernel) (by decide +kernel)
set_option maxRecDepth 20000 in
theorem gX6_minor_X6_rowAt : GoodIn wsX6_minor (va_wsS RX6 120 yX6_rowAt wsX6_rowAt) := goodIn_app (goodIn_of _ (by decide +kernel)) ggX6_minor_X6_rowAt
set_option maxRecDepth 20000 in
theorem ggX6_minor_X6_has : GoodIn wsX6_minor wsX6_has := goodIn_r _ [12] (by decide +kernel) (by decide +kernel)
set_option maxRecDepth 20000 in
theorem gX6_minor_X6_has : GoodIn wsX6_minor (va_wsS RX6 73 yX6_has wsX6_has) := goodIn_app (goodIn_of _ (by decide +kernel)) ggX6_minor_X6_has
theorem dX6_minor_0 : decode cX6_minor 0 = .ok (.aload_n 0, 1) := by decide +kernel
theorem dX6_minor_1 : decode cX6_minor 1 = .ok (.getfield 35, 3) := by decide +kernel
theorem dX6_minor_4 : decode cX6_minor 4 = .ok (.iconst 0, 1) := by decide +kernel
theorem dX6_minor_5 : decode cX6_minor 5 = .ok (.lconst 1, 1) := by decide +kernel
theorem dX6_minor_6 : decode cX6_minor 6 = .ok (.lastore, 1) := by decide +kernel
theorem dX6_minor_7 : decode cX6_minor 7 = .ok (.iconst 1, 1) := by decide +kernel
theorem dX6_minor_8 : decode cX6_minor 8 = .ok (.istore_n 3, 1) := by decide +kernel
theorem dX6_minor_9 : decode cX6_minor 9 = .ok (.iload_n 3, 1) := by decide +kernel
theorem dX6_minor_10 : decode cX6_minor 10 = .ok (.bipush 64, 2) := by decide +kernel
theorem dX6_minor_12 : decode cX6_minor 12 = .ok (.if_icmp .ge 136, 3) := by decide +kernel
theorem dX6_minor_15 : decode cX6_minor 15 = .ok (.iload_n 3, 1) := by decide +kernel
theorem dX6_minor_16 : decode cX6_minor 16 = .ok (.iload_n 2, 1) := by decide +kernel
theorem dX6_minor_17 : decode cX6_minor 17 = .ok (.iconst (-1), 1) := by decide +kernel
theorem dX6_minor_18 : decode cX6_minor 18 = .ok (.ixor, 1) := by decide +kernel
theorem dX6_minor_19 : decode cX6_minor 19 = .ok (.iand, 1) := by decide +kernel
theorem dX6_minor_20 : decode cX6_minor 20 = .ok (.ifCond .ne 122, 3) := by decide +kernel
theorem dX6_minor_23 : decode cX6_minor 23 = .ok (.iload_n 3, 1) := by decide +kernel
theorem dX6_minor_24 : decode cX6_minor 24 = .ok (.invokestatic 117, 3) := by decide +kernel
theorem dX6_minor_27 : decode cX6_minor 27 = .ok (.iload_n 1, 1) := by decide +kernel
theorem dX6_minor_28 : decode cX6_minor 28 = .ok (.invokestatic 117, 3) := by decide +kernel
theorem dX6_minor_31 : decode cX6_minor 31 = .ok (.if_icmp .gt 111, 3) := by decide +kernel
theorem dX6_minor_34 : decode cX6_minor 34 = .ok (.iload_n 1, 1) := by decide +kernel
theorem dX6_minor_35 : decode cX6_minor 35 = .ok (.iload_n 3, 1) := by decide +kernel
theorem dX6_minor_36 : decode cX6_minor 36 = .ok (.invokestatic 117, 3) := by decide +kernel
theorem dX6_minor_39 : decode cX6_minor 39 = .ok (.iconst 1, 1) := by decide +kernel
theorem dX6_minor_40 : decode cX6_minor 40 = .ok (.isub, 1) := by decide +kernel
theorem dX6_minor_41 : decode cX6_minor 41 = .ok (.invokestatic 120, 3) := by decide +kernel
theorem dX6_minor_44 : decode cX6_minor 44 = .ok (.istore 4, 2) := by decide +kernel
theorem dX6_minor_46 : decode cX6_minor 46 = .ok (.lconst 0, 1) := by decide +kernel
theorem dX6_minor_47 : decode cX6_minor 47 = .ok (.lstore 5, 2) := by decide +kernel
theorem dX6_minor_49 : decode cX6_minor 49 = .ok (.iload_n 3, 1) := by decide +kernel
theorem dX6_minor_50 : decode cX6_minor 50 = .ok (.invokestatic 117, 3) := by decide +kernel
theorem dX6_minor_53 : decode cX6_minor 53 = .ok (.iconst 1, 1) := by decide +kernel
theorem dX6_minor_54 : decode cX6_minor 54 = .ok (.isub, 1) := by decide +kernel
theorem dX6_minor_55 : decode cX6_minor 55 = .ok (.istore 7, 2) := by decide +kernel
theorem dX6_minor_57 : decode cX6_minor 57 = .ok (.iconst 0, 1) := by decide +kernel
theorem dX6_minor_58 : decode cX6_minor 58 = .ok (.istore 8, 2) := by decide +kernel
theorem dX6_minor_60 : decode cX6_minor 60 = .ok (.iload 8, 2) := by decide +kernel
theorem dX6_minor_62 : decode cX6_minor 62 = .ok (.bipush 6, 2) := by decide +kernel
theorem dX6_minor_64 : decode cX6_minor 64 = .ok (.if_icmp .ge 70, 3) := by decide +kernel
theorem dX6_minor_67 : decode cX6_minor 67 = .ok (.iload_n 3, 1) := by decide +kernel
theorem dX6_minor_68 : decode cX6_minor 68 = .ok (.iload 8, 2) := by decide +kernel
theorem dX6_minor_70 : decode cX6_minor 70 = .ok (.invokestatic 73, 3) := by decide +kernel
theorem dX6_minor_73 : decode cX6_minor 73 = .ok (.ifCond .eq 55, 3) := by decide +kernel
theorem dX6_minor_76 : decode cX6_minor 76 = .ok (.aload_n 0, 1) := by decide +kernel
theorem dX6_minor_77 : decode cX6_minor 77 = .ok (.getfield 32, 3) := by decide +kernel
theorem dX6_minor_80 : decode cX6_minor 80 = .ok (.bipush 6, 2) := by decide +kernel
theorem dX6_minor_82 : decode cX6_minor 82 = .ok (.iload 4, 2) := by decide +kernel
theorem dX6_minor_84 : decode cX6_minor 84 = .ok (.imul, 1) := by decide +kernel
theorem dX6_minor_85 : decode cX6_minor 85 = .ok (.iload 8, 2) := by decide +kernel
theorem dX6_minor_87 : decode cX6_minor 87 = .ok (.iadd, 1) := by decide +kernel
theorem dX6_minor_88 : decode cX6_minor 88 = .ok (.laload, 1) := by decide +kernel
theorem dX6_minor_89 : decode cX6_minor 89 = .ok (.aload_n 0, 1) := by decide +kernel
theorem dX6_minor_90 : decode cX6_minor 90 = .ok (.getfield 35, 3) := by decide +kernel
theorem dX6_minor_93 : decode cX6_minor 93 = .ok (.iload_n 3, 1) := by decide +kernel
theorem dX6_minor_94 : decode cX6_minor 94 = .ok (.iconst 1, 1) := by decide +kernel
theorem dX6_minor_95 : decode cX6_minor 95 = .ok (.iload 8, 2) := by decide +kernel
theorem dX6_minor_97 : decode cX6_minor 97 = .ok (.ishl, 1) := by decide +kernel
theorem dX6_minor_98 : decode cX6_minor 98 = .ok (.iconst (-1), 1) := by decide +kernel
theorem dX6_minor_99 : decode cX6_minor 99 = .ok (.ixor, 1) := by decide +kernel
theorem dX6_minor_100 : decode cX6_minor 100 = .ok (.iand, 1) := by decide +kernel
theorem dX6_minor_101 : decode cX6_minor 101 = .ok (.laload, 1) := by decide +kernel
theorem dX6_minor_102 : decode cX6_minor 102 = .ok (.lmul, 1) := by decide +kernel
theorem dX6_minor_103 : decode cX6_minor 103 = .ok (.lstore 9, 2) := by decide +kernel
theorem dX6_minor_105 : decode cX6_minor 105 = .ok (.lload 5, 2) := by decide +kernel
theorem dX6_minor_107 : decode cX6_minor 107 = .ok (.iload 7, 2) := by decide +kernel
theorem dX6_minor_109 : decode cX6_minor 109 = .ok (.iconst 2, 1) := by decide +kernel
theorem dX6_minor_110 : decode cX6_minor 110 = .ok (.irem, 1) := by decide +kernel
theorem dX6_minor_111 : decode cX6_minor 111 = .ok (.ifCond .ne 8, 3) := by decide +kernel
theorem dX6_minor_114 : decode cX6_minor 114 = .ok (.lload 9, 2) := by decide +kernel
theorem dX6_minor_116 : decode cX6_minor 116 = .ok (.goto 6, 3) := by decide +kernel
theorem dX6_minor_119 : decode cX6_minor 119 = .ok (.lload 9, 2) := by decide +kernel
theorem dX6_minor_121 : decode cX6_minor 121 = .ok (.lneg, 1) := by decide +kernel
theorem dX6_minor_122 : decode cX6_minor 122 = .ok (.ladd, 1) := by decide +kernel
theorem dX6_minor_123 : decode cX6_minor 123 = .ok (.lstore 5, 2) := by decide +kernel
theorem dX6_minor_125 : decode cX6_minor 125 = .ok (.iinc 7 (-1), 3) := by decide +kernel
theorem dX6_minor_128 : decode cX6_minor 128 = .ok (.iinc 8 1, 3) := by decide +kernel
theorem dX6_minor_131 : decode cX6_minor 131 = .ok (.goto (-71), 3) := by decide +kernel
theorem dX6_minor_134 : decode cX6_minor 134 = .ok (.aload_n 0, 1) := by decide +kernel
theorem dX6_minor_135 : decode cX6_minor 135 = .ok (.getfield 35, 3) := by decide +kernel
theorem dX6_minor_138 : decode cX6_minor 138 = .ok (.iload_n 3, 1) := by decide +kernel
theorem dX6_minor_139 : decode cX6_minor 139 = .ok (.lload 5, 2) := by decide +kernel
theorem dX6_minor_141 : decode cX6_minor 141 = .ok (.lastore, 1) := by decide +kernel
theorem dX6_minor_142 : decode cX6_minor 142 = .ok (.iinc 3 1, 3) := by decide +kernel
theorem dX6_minor_145 : decode cX6_minor 145 = .ok (.goto (-136), 3) := by decide +kernel
theorem dX6_minor_148 : decode cX6_minor 148 = .ok (.aload_n 0, 1) := by decide +kernel
theorem dX6_minor_149 : decode cX6_minor 149 = .ok (.getfield 35, 3) := by decide +kernel
theorem dX6_minor_152 : decode cX6_minor 152 = .ok (.iload_n 2, 1) := by decide +kernel
theorem dX6_minor_153 : decode cX6_minor 153 = .ok (.laload, 1) := by decide +kernel
theorem dX6_minor_154 : decode cX6_minor 154 = .ok (.lreturn, 1) := by decide +kernel
set_option maxRecDepth 20000 in
theorem ggX6_rowAt_X6_has : GoodIn wsX6_rowAt wsX6_has := goodIn_r _ [4] (by decide +kernel) (by decide +kernel)
set_option maxRecDepth 20000 in
theorem gX6_rowAt_X6_has : GoodIn wsX6_rowAt (va_wsS RX6 73 yX6_has wsX6_has) := goodIn_app (goodIn_of _ (by decide +kernel)) ggX6_rowAt_X6_has
theorem dX6_rowAt_0 : decode cX6_rowAt 0 = .ok (.iload_n 1, 1) := by decide +kernel
theorem dX6_rowAt_1 : decode cX6_rowAt 1 = .ok (.istore_n 2, 1) := by decide +kernel
theorem dX6_rowAt_2 : decode cX6_rowAt 2 = .ok (.iconst 0, 1) := by decide +kernel
theorem dX6_rowAt_3 : decode cX6_rowAt 3 = .ok (.istore_n 3, 1) := by decide +kernel
theorem dX6_rowAt_4 : decode cX6_rowAt 4 = .ok (.iload_n 0, 1) := by decide +kernel
theorem dX6_rowAt_5 : decode cX6_rowAt 5 = .ok (.iload_n 3, 1) := by decide +kernel
theorem dX6_rowAt_6 : decode cX6_rowAt 6 = .ok (.invokestatic 73, 3) := by decide +kernel
theorem dX6_rowAt_9 : decode cX6_rowAt 9 = .ok (.ifCond .eq 7, 3) := by decide +kernel
theorem dX6_rowAt_12 : decode cX6_rowAt 12 = .ok (.iload_n 2, 1) := by decide +kernel
theorem dX6_rowAt_13 : decode cX6_rowAt 13 = .ok (.ifCond .le 25, 3) := by decide +kernel
theorem dX6_rowAt_16 : decode cX6_rowAt 16 = .ok (.iload_n 2, 1) := by decide +kernel
theorem dX6_rowAt_17 : decode cX6_rowAt 17 = .ok (.iload_n 0, 1) := by decide +kernel
theorem dX6_rowAt_18 : decode cX6_rowAt 18 = .ok (.iload_n 3, 1) := by decide +kernel
theorem dX6_rowAt_19 : decode cX6_rowAt 19 = .ok (.invokestatic 73, 3) := by decide +kernel
theorem dX6_rowAt_22 : decode cX6_rowAt 22 = .ok (.ifCond .eq 7, 3) := by decide +kernel
theorem dX6_rowAt_25 : decode cX6_rowAt 25 = .ok (.iconst 1, 1) := by decide +kernel
theorem dX6_rowAt_26 : decode cX6_rowAt 26 = .ok (.goto 4, 3) := by decide +kernel
theorem dX6_rowAt_29 : decode cX6_rowAt 29 = .ok (.iconst 0, 1) := by decide +kernel
theorem dX6_rowAt_30 : decode cX6_rowAt 30 = .ok (.isub, 1) := by decide +kernel
theorem dX6_rowAt_31 : decode cX6_rowAt 31 = .ok (.istore_n 2, 1) := by decide +kernel
theorem dX6_rowAt_32 : decode cX6_rowAt 32 = .ok (.iinc 3 1, 3) := by decide +kernel
theorem dX6_rowAt_35 : decode cX6_rowAt 35 = .ok (.goto (-31), 3) := by decide +kernel
theorem dX6_rowAt_38 : decode cX6_rowAt 38 = .ok (.iload_n 3, 1) := by decide +kernel
theorem dX6_rowAt_39 : decode cX6_rowAt 39 = .ok (.ireturn, 1) := by decide +kernel
set_option maxRecDepth 20000 in
theorem ggX6_coefficientOf_X6_lays : GoodIn wsX6_coefficientOf wsX6_lays := goodIn_r _ [6, 7, 1, 8, 9, 5, 10, 25, 26, 27, 28, 29, 30, 31, 32, 33, 34, 35, 36] (by decide +kernel) (by decide +kernel)
set_option maxRecDepth 20000 in
theorem gX6_coefficientOf_X6_lays : GoodIn wsX6_coefficientOf (wsV RX6 123 RX6 yX6_lays wsX6_lays) := goodIn_app (goodIn_of _ (by decide +kernel)) ggX6_coefficientOf_X6_lays
set_option maxRecDepth 20000 in
theorem ggX6_coefficientOf_X6_ones : GoodIn wsX6_coefficientOf wsX6_ones := goodIn_r _ [13] (by decide +kernel) (by decide +kernel)
set_option maxRecDepth 20000 in
theorem gX6_coefficientOf_X6_ones : GoodIn wsX6_coefficientOf (va_wsS RX6 117 yX6_ones wsX6_ones) := goodIn_app (goodIn_of _ (by decide +kernel)) ggX6_coefficientOf_X6_ones
set_option maxRecDepth 20000 in
theorem ggX6_coefficientOf_X6_minor : GoodIn wsX6_coefficientOf wsX6_minor := goodIn_r _ [17, 18, 7, 11, 12, 5, 13, 19, 20, 21, 22, 23, 24, 25, 26, 27, 28, 29, 30, 31, 32, 33, 34, 35, 36] (by decide +kernel) (by decide +kernel)
set_option maxRecDepth 20000 in
theorem gX6_coefficientOf_X6_minor : GoodIn wsX6_coefficientOf (wsV RX6 127 RX6 yX6_minor wsX6_minor) := goodIn_app (goodIn_of _ (by decide +kernel)) ggX6_coefficientOf_X6_minor
theorem dX6_coefficientOf_0 : decode cX6_coefficientOf 0 = .ok (.aload_n 0, 1) := by decide +kernel
theorem dX6_coefficientOf_1 : decode cX6_coefficientOf 1 = .ok (.iload_n 1, 1) := by decide +kernel
theorem dX6_coefficientOf_2 : decode cX6_coefficientOf 2 = .ok (.iconst 0, 1) := by decide +kernel
theorem dX6_coefficientOf_3 : decode cX6_coefficientOf 3 = .ok (.iconst 1, 1) := by decide +kernel
theorem dX6_coefficientOf_4 : decode cX6_coefficientOf 4 = .ok (.invokevirtual 123, 3) := by decide +kernel
theorem dX6_coefficientOf_7 : decode cX6_coefficientOf 7 = .ok (.iload_n 2, 1) := by decide +kernel
theorem dX6_coefficientOf_8 : decode cX6_coefficientOf 8 = .ok (.ifCond .ne 7, 3) := by decide +kernel
theorem dX6_coefficientOf_11 : decode cX6_coefficientOf 11 = .ok (.lconst 1, 1) := by decide +kernel
theorem dX6_coefficientOf_12 : decode cX6_coefficientOf 12 = .ok (.goto 4, 3) := by decide +kernel
theorem dX6_coefficientOf_15 : decode cX6_coefficientOf 15 = .ok (.lconst 0, 1) := by decide +kernel
theorem dX6_coefficientOf_16 : decode cX6_coefficientOf 16 = .ok (.lstore_n 3, 1) := by decide +kernel
theorem dX6_coefficientOf_17 : decode cX6_coefficientOf 17 = .ok (.iconst 1, 1) := by decide +kernel
theorem dX6_coefficientOf_18 : decode cX6_coefficientOf 18 = .ok (.istore 5, 2) := by decide +kernel
theorem dX6_coefficientOf_20 : decode cX6_coefficientOf 20 = .ok (.iload 5, 2) := by decide +kernel
theorem dX6_coefficientOf_22 : decode cX6_coefficientOf 22 = .ok (.iconst 1, 1) := by decide +kernel
theorem dX6_coefficientOf_23 : decode cX6_coefficientOf 23 = .ok (.aload_n 0, 1) := by decide +kernel
theorem dX6_coefficientOf_24 : decode cX6_coefficientOf 24 = .ok (.getfield 7, 3) := by decide +kernel
theorem dX6_coefficientOf_27 : decode cX6_coefficientOf 27 = .ok (.iload_n 1, 1) := by decide +kernel
theorem dX6_coefficientOf_28 : decode cX6_coefficientOf 28 = .ok (.iaload, 1) := by decide +kernel
theorem dX6_coefficientOf_29 : decode cX6_coefficientOf 29 = .ok (.ishl, 1) := by decide +kernel
theorem dX6_coefficientOf_30 : decode cX6_coefficientOf 30 = .ok (.if_icmp .ge 37, 3) := by decide +kernel
theorem dX6_coefficientOf_33 : decode cX6_coefficientOf 33 = .ok (.iload_n 2, 1) := by decide +kernel
theorem dX6_coefficientOf_34 : decode cX6_coefficientOf 34 = .ok (.ifCond .le 33, 3) := by decide +kernel
theorem dX6_coefficientOf_37 : decode cX6_coefficientOf 37 = .ok (.lload_n 3, 1) := by decide +kernel
theorem dX6_coefficientOf_38 : decode cX6_coefficientOf 38 = .ok (.iload 5, 2) := by decide +kernel
theorem dX6_coefficientOf_40 : decode cX6_coefficientOf 40 = .ok (.invokestatic 117, 3) := by decide +kernel
theorem dX6_coefficientOf_43 : decode cX6_coefficientOf 43 = .ok (.iload_n 2, 1) := by decide +kernel
theorem dX6_coefficientOf_44 : decode cX6_coefficientOf 44 = .ok (.if_icmp .ne 14, 3) := by decide +kernel
theorem dX6_coefficientOf_47 : decode cX6_coefficientOf 47 = .ok (.aload_n 0, 1) := by decide +kernel
theorem dX6_coefficientOf_48 : decode cX6_coefficientOf 48 = .ok (.iload 5, 2) := by decide +kernel
theorem dX6_coefficientOf_50 : decode cX6_coefficientOf 50 = .ok (.iload 5, 2) := by decide +kernel
theorem dX6_coefficientOf_52 : decode cX6_coefficientOf 52 = .ok (.invokevirtual 127, 3) := by decide +kernel
theorem dX6_coefficientOf_55 : decode cX6_coefficientOf 55 = .ok (.goto 4, 3) := by decide +kernel
theorem dX6_coefficientOf_58 : decode cX6_coefficientOf 58 = .ok (.lconst 0, 1) := by decide +kernel
theorem dX6_coefficientOf_59 : decode cX6_coefficientOf 59 = .ok (.ladd, 1) := by decide +kernel
theorem dX6_coefficientOf_60 : decode cX6_coefficientOf 60 = .ok (.lstore_n 3, 1) := by decide +kernel
theorem dX6_coefficientOf_61 : decode cX6_coefficientOf 61 = .ok (.iinc 5 1, 3) := by decide +kernel
theorem dX6_coefficientOf_64 : decode cX6_coefficientOf 64 = .ok (.goto (-44), 3) := by decide +kernel
theorem dX6_coefficientOf_67 : decode cX6_coefficientOf 67 = .ok (.lload_n 3, 1) := by decide +kernel
theorem dX6_coefficientOf_68 : decode cX6_coefficientOf 68 = .ok (.lreturn, 1) := by decide +kernel
set_option maxRecDepth 20000 in
theorem ggX6_coefficient_X6_in : GoodIn wsX6_coefficient wsX6_in := goodIn_r _ [6] (by decide +kernel) (by decide +kernel)
set_option maxRecDepth 20000 in
theorem gX6_coefficient_X6_in : GoodIn wsX6_coefficient (va_wsS RX6 52 yX6_in wsX6_in) := goodIn_app (goodIn_of _ (by decide +kernel)) ggX6_coefficient_X6_in
set_option maxRecDepth 20000 in
theorem ggX6_coefficient_X6_coefficientOf : GoodIn wsX6_coefficient wsX6_coefficientOf := goodIn_r _ [10, 11, 12, 13, 14, 5, 15, 16, 17, 18, 19, 20, 21, 22, 23, 24, 25, 26, 27, 28, 29, 30, 31, 32, 33, 34, 35, 36, 37, 38, 39, 40, 41, 42, 43, 44, 45] (by decide +kernel) (by decide +kernel)
set_option maxRecDepth 20000 in
theorem gX6_coefficient_X6_coefficientOf : GoodIn wsX6_coefficient (wsV RX6 131 RX6 yX6_coefficientOf wsX6_coefficientOf) := goodIn_app (goodIn_of _ (by decide +kernel)) ggX6_coefficient_X6_coefficientOf
theorem dX6_coefficient_0 : decode cX6_coefficient 0 = .ok (.iload_n 1, 1) := by decide +kernel
theorem dX6_coefficient_1 : decode cX6_coefficient 1 = .ok (.i2l, 1) := by decide +kernel
theorem dX6_coefficient_2 : decode cX6_coefficient 2 = .ok (.lconst 0, 1) := by decide +kernel
theorem dX6_coefficient_3 : decode cX6_coefficient 3 = .ok (.ldc2_w 61, 3) := by decide +kernel
theorem dX6_coefficient_6 : decode cX6_coefficient 6 = .ok (.invokestatic 52, 3) := by decide +kernel
theorem dX6_coefficient_9 : decode cX6_coefficient 9 = .ok (.ifCond .eq 12, 3) := by decide +kernel
theorem dX6_coefficient_12 : decode cX6_coefficient 12 = .ok (.aload_n 0, 1) := by decide +kernel
theorem dX6_coefficient_13 : decode cX6_coefficient 13 = .ok (.iconst 0, 1) := by decide +kernel
theorem dX6_coefficient_14 : decode cX6_coefficient 14 = .ok (.iload_n 1, 1) := by decide +kernel
theorem dX6_coefficient_15 : decode cX6_coefficient 15 = .ok (.invokevirtual 131, 3) := by decide +kernel
theorem dX6_coefficient_18 : decode cX6_coefficient 18 = .ok (.goto 6, 3) := by decide +kernel
theorem dX6_coefficient_21 : decode cX6_coefficient 21 = .ok (.ldc2_w 92, 3) := by decide +kernel
theorem dX6_coefficient_24 : decode cX6_coefficient 24 = .ok (.lreturn, 1) := by decide +kernel
set_option maxRecDepth 20000 in
theorem ggX6_isLess_X6_lays : GoodIn wsX6_isLess wsX6_lays := goodIn_r _ [6, 7, 1, 8, 9, 5, 10, 25, 26, 27, 28, 29, 30, 31, 32, 33, 34, 35, 36] (by decide +kernel) (by decide +kernel)
set_option maxRecDepth 20000 in
theorem gX6_isLess_X6_lays : GoodIn wsX6_isLess (wsV RX6 123 RX6 yX6_lays wsX6_lays) := goodIn_app (goodIn_of _ (by decide +kernel)) ggX6_isLess_X6_lays
set_option maxRecDepth 20000 in
theorem ggX6_isLess_X6_minor : GoodIn wsX6_isLess wsX6_minor := goodIn_r _ [14, 15, 7, 16, 17, 5, 18, 19, 20, 21, 22, 23, 24, 25, 26, 27, 28, 29, 30, 31, 32, 33, 34, 35, 36] (by decide +kernel) (by decide +kernel)
set_option maxRecDepth 20000 in
theorem gX6_isLess_X6_minor : GoodIn wsX6_isLess (wsV RX6 127 RX6 yX6_minor wsX6_minor) := goodIn_app (goodIn_of _ (by decide +kernel)) ggX6_isLess_X6_minor
theorem dX6_isLess_0 : decode cX6_isLess 0 = .ok (.aload_n 0, 1) := by decide +kernel
theorem dX6_isLess_1 : decode cX6_isLess 1 = .ok (.iconst 0, 1) := by decide +kernel
theorem dX6_isLess_2 : decode cX6_isLess 2 = .ok (.iload_n 1, 1) := by decide +kernel
theorem dX6_isLess_3 : decode cX6_isLess 3 = .ok (.bipush 10, 2) := by decide +kernel
theorem dX6_isLess_5 : decode cX6_isLess 5 = .ok (.invokevirtual 123, 3) := by decide +kernel
theorem dX6_isLess_8 : decode cX6_isLess 8 = .ok (.iconst 1, 1) := by decide +kernel
theorem dX6_isLess_9 : decode cX6_isLess 9 = .ok (.istore_n 2, 1) := by decide +kernel
theorem dX6_isLess_10 : decode cX6_isLess 10 = .ok (.iconst 1, 1) := by decide +kernel
theorem dX6_isLess_11 : decode cX6_isLess 11 = .ok (.istore_n 3, 1) := by decide +kernel
theorem dX6_isLess_12 : decode cX6_isLess 12 = .ok (.iload_n 3, 1) := by decide +kernel
theorem dX6_isLess_13 : decode cX6_isLess 13 = .ok (.aload_n 0, 1) := by decide +kernel
theorem dX6_isLess_14 : decode cX6_isLess 14 = .ok (.getfield 7, 3) := by decide +kernel
theorem dX6_isLess_17 : decode cX6_isLess 17 = .ok (.iconst 0, 1) := by decide +kernel
theorem dX6_isLess_18 : decode cX6_isLess 18 = .ok (.iaload, 1) := by decide +kernel
theorem dX6_isLess_19 : decode cX6_isLess 19 = .ok (.if_icmp .gt 39, 3) := by decide +kernel
theorem dX6_isLess_22 : decode cX6_isLess 22 = .ok (.iconst 1, 1) := by decide +kernel
theorem dX6_isLess_23 : decode cX6_isLess 23 = .ok (.iload_n 3, 1) := by decide +kernel
theorem dX6_isLess_24 : decode cX6_isLess 24 = .ok (.ishl, 1) := by decide +kernel
theorem dX6_isLess_25 : decode cX6_isLess 25 = .ok (.iconst 1, 1) := by decide +kernel
theorem dX6_isLess_26 : decode cX6_isLess 26 = .ok (.isub, 1) := by decide +kernel
theorem dX6_isLess_27 : decode cX6_isLess 27 = .ok (.istore 4, 2) := by decide +kernel
theorem dX6_isLess_29 : decode cX6_isLess 29 = .ok (.iload_n 2, 1) := by decide +kernel
theorem dX6_isLess_30 : decode cX6_isLess 30 = .ok (.ifCond .eq 20, 3) := by decide +kernel
theorem dX6_isLess_33 : decode cX6_isLess 33 = .ok (.aload_n 0, 1) := by decide +kernel
theorem dX6_isLess_34 : decode cX6_isLess 34 = .ok (.iload 4, 2) := by decide +kernel
theorem dX6_isLess_36 : decode cX6_isLess 36 = .ok (.iload 4, 2) := by decide +kernel
theorem dX6_isLess_38 : decode cX6_isLess 38 = .ok (.invokevirtual 127, 3) := by decide +kernel
theorem dX6_isLess_41 : decode cX6_isLess 41 = .ok (.lconst 0, 1) := by decide +kernel
theorem dX6_isLess_42 : decode cX6_isLess 42 = .ok (.lcmp, 1) := by decide +kernel
theorem dX6_isLess_43 : decode cX6_isLess 43 = .ok (.ifCond .le 7, 3) := by decide +kernel
theorem dX6_isLess_46 : decode cX6_isLess 46 = .ok (.iconst 1, 1) := by decide +kernel
theorem dX6_isLess_47 : decode cX6_isLess 47 = .ok (.goto 4, 3) := by decide +kernel
theorem dX6_isLess_50 : decode cX6_isLess 50 = .ok (.iconst 0, 1) := by decide +kernel
theorem dX6_isLess_51 : decode cX6_isLess 51 = .ok (.istore_n 2, 1) := by decide +kernel
theorem dX6_isLess_52 : decode cX6_isLess 52 = .ok (.iinc 3 1, 3) := by decide +kernel
theorem dX6_isLess_55 : decode cX6_isLess 55 = .ok (.goto (-43), 3) := by decide +kernel
theorem dX6_isLess_58 : decode cX6_isLess 58 = .ok (.iload_n 2, 1) := by decide +kernel
theorem dX6_isLess_59 : decode cX6_isLess 59 = .ok (.ireturn, 1) := by decide +kernel
set_option maxRecDepth 20000 in
theorem ggX6_radiusTenths_X6_isLess : GoodIn wsX6_radiusTenths wsX6_isLess := goodIn_r _ [5, 6, 7, 8, 9, 4, 10, 11, 12, 13, 14, 15, 16, 17, 18, 19, 20, 21, 22, 23, 24, 25, 26, 27, 28, 29, 30, 31, 32, 33, 34, 35, 36, 37, 38, 39, 40] (by decide +kernel) (by decide +kernel)
set_option maxRecDepth 20000 in
theorem gX6_radiusTenths_X6_isLess : GoodIn wsX6_radiusTenths (wsV RX6 134 RX6 yX6_isLess wsX6_isLess) := goodIn_app (goodIn_of _ (by decide +kernel)) ggX6_radiusTenths_X6_isLess
theorem dX6_radiusTenths_0 : decode cX6_radiusTenths 0 = .ok (.iconst 0, 1) := by decide +kernel
theorem dX6_radiusTenths_1 : decode cX6_radiusTenths 1 = .ok (.istore_n 1, 1) := by decide +kernel
theorem dX6_radiusTenths_2 : decode cX6_radiusTenths 2 = .ok (.aload_n 0, 1) := by decide +kernel
theorem dX6_radiusTenths_3 : decode cX6_radiusTenths 3 = .ok (.iload_n 1, 1) := by decide +kernel
theorem dX6_radiusTenths_4 : decode cX6_radiusTenths 4 = .ok (.iconst 1, 1) := by decide +kernel
theorem dX6_radiusTenths_5 : decode cX6_radiusTenths 5 = .ok (.iadd, 1) := by decide +kernel
theorem dX6_radiusTenths_6 : decode cX6_radiusTenths 6 = .ok (.invokevirtual 134, 3) := by decide +kernel
theorem dX6_radiusTenths_9 : decode cX6_radiusTenths 9 = .ok (.ifCond .ne 9, 3) := by decide +kernel
theorem dX6_radiusTenths_12 : decode cX6_radiusTenths 12 = .ok (.iinc 1 1, 3) := by decide +kernel
theorem dX6_radiusTenths_15 : decode cX6_radiusTenths 15 = .ok (.goto (-13), 3) := by decide +kernel
theorem dX6_radiusTenths_18 : decode cX6_radiusTenths 18 = .ok (.iload_n 1, 1) := by decide +kernel
theorem dX6_radiusTenths_19 : decode cX6_radiusTenths 19 = .ok (.ireturn, 1) := by decide +kernel
set_option maxRecDepth 20000 in
theorem ggX6_determinant_X6_lays : GoodIn wsX6_determinant wsX6_lays := goodIn_r _ [6, 7, 1, 8, 9, 5, 10, 25, 26, 27, 28, 29, 30, 31, 32, 33, 34, 35, 36] (by decide +kernel) (by decide +kernel)
set_option maxRecDepth 20000 in
theorem gX6_determinant_X6_lays : GoodIn wsX6_determinant (wsV RX6 123 RX6 yX6_lays wsX6_lays) := goodIn_app (goodIn_of _ (by decide +kernel)) ggX6_determinant_X6_lays
set_option maxRecDepth 20000 in
theorem ggX6_determinant_X6_minor : GoodIn wsX6_determinant wsX6_minor := goodIn_r _ [14, 15, 7, 16, 17, 5, 18, 19, 20, 21, 22, 23, 24, 25, 26, 27, 28, 29, 30, 31, 32, 33, 34, 35, 36] (by decide +kernel) (by decide +kernel)
set_option maxRecDepth 20000 in
theorem gX6_determinant_X6_minor : GoodIn wsX6_determinant (wsV RX6 127 RX6 yX6_minor wsX6_minor) := goodIn_app (goodIn_of _ (by decide +kernel)) ggX6_determinant_X6_minor
theorem dX6_determinant_0 : decode cX6_determinant 0 = .ok (.aload_n 0, 1) := by decide +kernel
theorem dX6_determinant_1 : decode cX6_determinant 1 = .ok (.iconst 0, 1) := by decide +kernel
theorem dX6_determinant_2 : decode cX6_determinant 2 = .ok (.iconst 1, 1) := by decide +kernel
theorem dX6_determinant_3 : decode cX6_determinant 3 = .ok (.iconst 1, 1) := by decide +kernel
theorem dX6_determinant_4 : decode cX6_determinant 4 = .ok (.invokevirtual 123, 3) := by decide +kernel
theorem dX6_determinant_7 : decode cX6_determinant 7 = .ok (.iconst 1, 1) := by decide +kernel
theorem dX6_determinant_8 : decode cX6_determinant 8 = .ok (.aload_n 0, 1) := by decide +kernel
theorem dX6_determinant_9 : decode cX6_determinant 9 = .ok (.getfield 7, 3) := by decide +kernel
theorem dX6_determinant_12 : decode cX6_determinant 12 = .ok (.iconst 0, 1) := by decide +kernel
theorem dX6_determinant_13 : decode cX6_determinant 13 = .ok (.iaload, 1) := by decide +kernel
theorem dX6_determinant_14 : decode cX6_determinant 14 = .ok (.ishl, 1) := by decide +kernel
theorem dX6_determinant_15 : decode cX6_determinant 15 = .ok (.iconst 1, 1) := by decide +kernel
theorem dX6_determinant_16 : decode cX6_determinant 16 = .ok (.isub, 1) := by decide +kernel
theorem dX6_determinant_17 : decode cX6_determinant 17 = .ok (.istore_n 1, 1) := by decide +kernel
theorem dX6_determinant_18 : decode cX6_determinant 18 = .ok (.aload_n 0, 1) := by decide +kernel
theorem dX6_determinant_19 : decode cX6_determinant 19 = .ok (.iload_n 1, 1) := by decide +kernel
theorem dX6_determinant_20 : decode cX6_determinant 20 = .ok (.iload_n 1, 1) := by decide +kernel
theorem dX6_determinant_21 : decode cX6_determinant 21 = .ok (.invokevirtual 127, 3) := by decide +kernel
theorem dX6_determinant_24 : decode cX6_determinant 24 = .ok (.lreturn, 1) := by decide +kernel
set_option maxRecDepth 20000 in
theorem ggX6_divisor_X6_lays : GoodIn wsX6_divisor wsX6_lays := goodIn_r _ [6, 7, 1, 8, 9, 5, 10, 28, 29, 30, 31, 32, 33, 34, 35, 36, 37, 38, 39] (by decide +kernel) (by decide +kernel)
set_option maxRecDepth 20000 in
theorem gX6_divisor_X6_lays : GoodIn wsX6_divisor (wsV RX6 123 RX6 yX6_lays wsX6_lays) := goodIn_app (goodIn_of _ (by decide +kernel)) ggX6_divisor_X6_lays
set_option maxRecDepth 20000 in
theorem ggX6_divisor_X6_ones : GoodIn wsX6_divisor wsX6_ones := goodIn_r _ [13] (by decide +kernel) (by decide +kernel)
set_option maxRecDepth 20000 in
theorem gX6_divisor_X6_ones : GoodIn wsX6_divisor (va_wsS RX6 117 yX6_ones wsX6_ones) := goodIn_app (goodIn_of _ (by decide +kernel)) ggX6_divisor_X6_ones
set_option maxRecDepth 20000 in
theorem ggX6_divisor_X6_minor : GoodIn wsX6_divisor wsX6_minor := goodIn_r _ [17, 18, 7, 11, 12, 5, 13, 19, 20, 21, 22, 23, 24, 28, 29, 30, 31, 32, 33, 34, 35, 36, 37, 38, 39] (by decide +kernel) (by decide +kernel)
set_option maxRecDepth 20000 in
theorem gX6_divisor_X6_minor : GoodIn wsX6_divisor (wsV RX6 127 RX6 yX6_minor wsX6_minor) := goodIn_app (goodIn_of _ (by decide +kernel)) ggX6_divisor_X6_minor
set_option maxRecDepth 20000 in
theorem ggX6_divisor_X6_common : GoodIn wsX6_divisor wsX6_common := goodIn_r _ [27] (by decide +kernel) (by decide +kernel)
set_option maxRecDepth 20000 in
theorem gX6_divisor_X6_common : GoodIn wsX6_divisor (va_wsS RX6 108 yX6_common wsX6_common) := goodIn_app (goodIn_of _ (by decide +kernel)) ggX6_divisor_X6_common
theorem dX6_divisor_0 : decode cX6_divisor 0 = .ok (.aload_n 0, 1) := by decide +kernel
theorem dX6_divisor_1 : decode cX6_divisor 1 = .ok (.iload_n 1, 1) := by decide +kernel
theorem dX6_divisor_2 : decode cX6_divisor 2 = .ok (.iconst 1, 1) := by decide +kernel
theorem dX6_divisor_3 : decode cX6_divisor 3 = .ok (.iconst 1, 1) := by decide +kernel
theorem dX6_divisor_4 : decode cX6_divisor 4 = .ok (.invokevirtual 123, 3) := by decide +kernel
theorem dX6_divisor_7 : decode cX6_divisor 7 = .ok (.iload_n 2, 1) := by decide +kernel
theorem dX6_divisor_8 : decode cX6_divisor 8 = .ok (.ifCond .ne 7, 3) := by decide +kernel
theorem dX6_divisor_11 : decode cX6_divisor 11 = .ok (.lconst 1, 1) := by decide +kernel
theorem dX6_divisor_12 : decode cX6_divisor 12 = .ok (.goto 4, 3) := by decide +kernel
theorem dX6_divisor_15 : decode cX6_divisor 15 = .ok (.lconst 0, 1) := by decide +kernel
theorem dX6_divisor_16 : decode cX6_divisor 16 = .ok (.lstore_n 3, 1) := by decide +kernel
theorem dX6_divisor_17 : decode cX6_divisor 17 = .ok (.iconst 1, 1) := by decide +kernel
theorem dX6_divisor_18 : decode cX6_divisor 18 = .ok (.aload_n 0, 1) := by decide +kernel
theorem dX6_divisor_19 : decode cX6_divisor 19 = .ok (.getfield 7, 3) := by decide +kernel
theorem dX6_divisor_22 : decode cX6_divisor 22 = .ok (.iload_n 1, 1) := by decide +kernel
theorem dX6_divisor_23 : decode cX6_divisor 23 = .ok (.iaload, 1) := by decide +kernel
theorem dX6_divisor_24 : decode cX6_divisor 24 = .ok (.ishl, 1) := by decide +kernel
theorem dX6_divisor_25 : decode cX6_divisor 25 = .ok (.istore 5, 2) := by decide +kernel
theorem dX6_divisor_27 : decode cX6_divisor 27 = .ok (.iconst 1, 1) := by decide +kernel
theorem dX6_divisor_28 : decode cX6_divisor 28 = .ok (.istore 6, 2) := by decide +kernel
theorem dX6_divisor_30 : decode cX6_divisor 30 = .ok (.iload 6, 2) := by decide +kernel
theorem dX6_divisor_32 : decode cX6_divisor 32 = .ok (.iload 5, 2) := by decide +kernel
theorem dX6_divisor_34 : decode cX6_divisor 34 = .ok (.if_icmp .ge 64, 3) := by decide +kernel
theorem dX6_divisor_37 : decode cX6_divisor 37 = .ok (.iload_n 2, 1) := by decide +kernel
theorem dX6_divisor_38 : decode cX6_divisor 38 = .ok (.ifCond .le 60, 3) := by decide +kernel
theorem dX6_divisor_41 : decode cX6_divisor 41 = .ok (.iconst 1, 1) := by decide +kernel
theorem dX6_divisor_42 : decode cX6_divisor 42 = .ok (.istore 7, 2) := by decide +kernel
theorem dX6_divisor_44 : decode cX6_divisor 44 = .ok (.iload 7, 2) := by decide +kernel
theorem dX6_divisor_46 : decode cX6_divisor 46 = .ok (.iload 5, 2) := by decide +kernel
theorem dX6_divisor_48 : decode cX6_divisor 48 = .ok (.if_icmp .ge 44, 3) := by decide +kernel
theorem dX6_divisor_51 : decode cX6_divisor 51 = .ok (.iload 6, 2) := by decide +kernel
theorem dX6_divisor_53 : decode cX6_divisor 53 = .ok (.invokestatic 117, 3) := by decide +kernel
theorem dX6_divisor_56 : decode cX6_divisor 56 = .ok (.iload_n 2, 1) := by decide +kernel
theorem dX6_divisor_57 : decode cX6_divisor 57 = .ok (.if_icmp .ne 35, 3) := by decide +kernel
theorem dX6_divisor_60 : decode cX6_divisor 60 = .ok (.iload 7, 2) := by decide +kernel
theorem dX6_divisor_62 : decode cX6_divisor 62 = .ok (.invokestatic 117, 3) := by decide +kernel
theorem dX6_divisor_65 : decode cX6_divisor 65 = .ok (.iload_n 2, 1) := by decide +kernel
theorem dX6_divisor_66 : decode cX6_divisor 66 = .ok (.if_icmp .ne 18, 3) := by decide +kernel
theorem dX6_divisor_69 : decode cX6_divisor 69 = .ok (.lload_n 3, 1) := by decide +kernel
theorem dX6_divisor_70 : decode cX6_divisor 70 = .ok (.aload_n 0, 1) := by decide +kernel
theorem dX6_divisor_71 : decode cX6_divisor 71 = .ok (.iload 6, 2) := by decide +kernel
theorem dX6_divisor_73 : decode cX6_divisor 73 = .ok (.iload 7, 2) := by decide +kernel
theorem dX6_divisor_75 : decode cX6_divisor 75 = .ok (.invokevirtual 127, 3) := by decide +kernel
theorem dX6_divisor_78 : decode cX6_divisor 78 = .ok (.invokestatic 108, 3) := by decide +kernel
theorem dX6_divisor_81 : decode cX6_divisor 81 = .ok (.goto 4, 3) := by decide +kernel
theorem dX6_divisor_84 : decode cX6_divisor 84 = .ok (.lload_n 3, 1) := by decide +kernel
theorem dX6_divisor_85 : decode cX6_divisor 85 = .ok (.lstore_n 3, 1) := by decide +kernel
theorem dX6_divisor_86 : decode cX6_divisor 86 = .ok (.iinc 7 1, 3) := by decide +kernel
theorem dX6_divisor_89 : decode cX6_divisor 89 = .ok (.goto (-45), 3) := by decide +kernel
theorem dX6_divisor_92 : decode cX6_divisor 92 = .ok (.iinc 6 1, 3) := by decide +kernel
theorem dX6_divisor_95 : decode cX6_divisor 95 = .ok (.goto (-65), 3) := by decide +kernel
theorem dX6_divisor_98 : decode cX6_divisor 98 = .ok (.lload_n 3, 1) := by decide +kernel
theorem dX6_divisor_99 : decode cX6_divisor 99 = .ok (.lreturn, 1) := by decide +kernel
set_option maxRecDepth 20000 in
theorem ggX6_factorOf_X6_divisor : GoodIn wsX6_factorOf wsX6_divisor := goodIn_r _ [5, 6, 7, 8, 9, 4, 10, 11, 12, 13, 14, 15, 16, 17, 18, 19, 20, 21, 22, 23, 24, 25, 26, 27, 28, 29, 30, 31, 32, 33, 34, 35, 36, 37, 38, 39, 40, 41, 42, 43] (by decide +kernel) (by decide +kernel)
set_option maxRecDepth 20000 in
theorem gX6_factorOf_X6_divisor : GoodIn wsX6_factorOf (wsV RX6 137 RX6 yX6_divisor wsX6_divisor) := goodIn_app (goodIn_of _ (by decide +kernel)) ggX6_factorOf_X6_divisor
theorem dX6_factorOf_0 : decode cX6_factorOf 0 = .ok (.aload_n 0, 1) := by decide +kernel
theorem dX6_factorOf_1 : decode cX6_factorOf 1 = .ok (.iload_n 1, 1) := by decide +kernel
theorem dX6_factorOf_2 : decode cX6_factorOf 2 = .ok (.iload_n 2, 1) := by decide +kernel
theorem dX6_factorOf_3 : decode cX6_factorOf 3 = .ok (.invokevirtual 137, 3) := by decide +kernel
theorem dX6_factorOf_6 : decode cX6_factorOf 6 = .ok (.lstore_n 3, 1) := by decide +kernel
theorem dX6_factorOf_7 : decode cX6_factorOf 7 = .ok (.lload_n 3, 1) := by decide +kernel
theorem dX6_factorOf_8 : decode cX6_factorOf 8 = .ok (.lconst 0, 1) := by decide +kernel
theorem dX6_factorOf_9 : decode cX6_factorOf 9 = .ok (.lcmp, 1) := by decide +kernel
theorem dX6_factorOf_10 : decode cX6_factorOf 10 = .ok (.ifCond .ne 7, 3) := by decide +kernel
theorem dX6_factorOf_13 : decode cX6_factorOf 13 = .ok (.lconst 0, 1) := by decide +kernel
theorem dX6_factorOf_14 : decode cX6_factorOf 14 = .ok (.goto 13, 3) := by decide +kernel
theorem dX6_factorOf_17 : decode cX6_factorOf 17 = .ok (.lload_n 3, 1) := by decide +kernel
theorem dX6_factorOf_18 : decode cX6_factorOf 18 = .ok (.aload_n 0, 1) := by decide +kernel
theorem dX6_factorOf_19 : decode cX6_factorOf 19 = .ok (.iload_n 1, 1) := by decide +kernel
theorem dX6_factorOf_20 : decode cX6_factorOf 20 = .ok (.iload_n 2, 1) := by decide +kernel
theorem dX6_factorOf_21 : decode cX6_factorOf 21 = .ok (.iconst 1, 1) := by decide +kernel
theorem dX6_factorOf_22 : decode cX6_factorOf 22 = .ok (.isub, 1) := by decide +kernel
theorem dX6_factorOf_23 : decode cX6_factorOf 23 = .ok (.invokevirtual 137, 3) := by decide +kernel
theorem dX6_factorOf_26 : decode cX6_factorOf 26 = .ok (.ldiv, 1) := by decide +kernel
theorem dX6_factorOf_27 : decode cX6_factorOf 27 = .ok (.lreturn, 1) := by decide +kernel
set_option maxRecDepth 20000 in
theorem ggX6_factor_X6_in : GoodIn wsX6_factor wsX6_in := goodIn_r _ [6] (by decide +kernel) (by decide +kernel)
set_option maxRecDepth 20000 in
theorem gX6_factor_X6_in : GoodIn wsX6_factor (va_wsS RX6 52 yX6_in wsX6_in) := goodIn_app (goodIn_of _ (by decide +kernel)) ggX6_factor_X6_in
set_option maxRecDepth 20000 in
theorem ggX6_factor_X6_factorOf : GoodIn wsX6_factor wsX6_factorOf := goodIn_r _ [10, 11, 12, 13, 5, 14, 1, 15, 16, 17, 18, 19, 20, 21, 22, 23, 24, 25, 26, 27, 28, 29, 30, 31, 32, 33, 34, 35, 36, 37, 38, 39, 40, 41, 42, 43, 44, 45, 46, 47, 48, 49, 50, 51] (by decide +kernel) (by decide +kernel)
set_option maxRecDepth 20000 in
theorem gX6_factor_X6_factorOf : GoodIn wsX6_factor (wsV RX6 140 RX6 yX6_factorOf wsX6_factorOf) := goodIn_app (goodIn_of _ (by decide +kernel)) ggX6_factor_X6_factorOf
theorem dX6_factor_0 : decode cX6_factor 0 = .ok (.iload_n 1, 1) := by decide +kernel
theorem dX6_factor_1 : decode cX6_factor 1 = .ok (.i2l, 1) := by decide +kernel
theorem dX6_factor_2 : decode cX6_factor 2 = .ok (.lconst 1, 1) := by decide +kernel
theorem dX6_factor_3 : decode cX6_factor 3 = .ok (.aload_n 0, 1) := by decide +kernel
theorem dX6_factor_4 : decode cX6_factor 4 = .ok (.getfield 7, 3) := by decide +kernel
theorem dX6_factor_7 : decode cX6_factor 7 = .ok (.iconst 0, 1) := by decide +kernel
theorem dX6_factor_8 : decode cX6_factor 8 = .ok (.iaload, 1) := by decide +kernel
theorem dX6_factor_9 : decode cX6_factor 9 = .ok (.i2l, 1) := by decide +kernel
theorem dX6_factor_10 : decode cX6_factor 10 = .ok (.invokestatic 52, 3) := by decide +kernel
theorem dX6_factor_13 : decode cX6_factor 13 = .ok (.ifCond .eq 12, 3) := by decide +kernel
theorem dX6_factor_16 : decode cX6_factor 16 = .ok (.aload_n 0, 1) := by decide +kernel
theorem dX6_factor_17 : decode cX6_factor 17 = .ok (.iconst 0, 1) := by decide +kernel
theorem dX6_factor_18 : decode cX6_factor 18 = .ok (.iload_n 1, 1) := by decide +kernel
theorem dX6_factor_19 : decode cX6_factor 19 = .ok (.invokevirtual 140, 3) := by decide +kernel
theorem dX6_factor_22 : decode cX6_factor 22 = .ok (.goto 6, 3) := by decide +kernel
theorem dX6_factor_25 : decode cX6_factor 25 = .ok (.ldc2_w 92, 3) := by decide +kernel
theorem dX6_factor_28 : decode cX6_factor 28 = .ok (.lreturn, 1) := by decide +kernel
set_option maxRecDepth 20000 in
theorem ggX6_setShare_X6_in : GoodIn wsX6_setShare wsX6_in := goodIn_r _ [8] (by decide +kernel) (by decide +kernel)
set_option maxRecDepth 20000 in
theorem gX6_setShare_X6_in : GoodIn wsX6_setShare (va_wsS RX6 52 yX6_in wsX6_in) := goodIn_app (goodIn_of _ (by decide +kernel)) ggX6_setShare_X6_in
theorem dX6_setShare_0 : decode cX6_setShare 0 = .ok (.iload_n 1, 1) := by decide +kernel
theorem dX6_setShare_1 : decode cX6_setShare 1 = .ok (.i2l, 1) := by decide +kernel
theorem dX6_setShare_2 : decode cX6_setShare 2 = .ok (.lconst 0, 1) := by decide +kernel
theorem dX6_setShare_3 : decode cX6_setShare 3 = .ok (.ldc2_w 143, 3) := by decide +kernel
theorem dX6_setShare_6 : decode cX6_setShare 6 = .ok (.invokestatic 52, 3) := by decide +kernel
theorem dX6_setShare_9 : decode cX6_setShare 9 = .ok (.ifCond .eq 15, 3) := by decide +kernel
theorem dX6_setShare_12 : decode cX6_setShare 12 = .ok (.iload_n 2, 1) := by decide +kernel
theorem dX6_setShare_13 : decode cX6_setShare 13 = .ok (.i2l, 1) := by decide +kernel
theorem dX6_setShare_14 : decode cX6_setShare 14 = .ok (.lconst 0, 1) := by decide +kernel
theorem dX6_setShare_15 : decode cX6_setShare 15 = .ok (.ldc2_w 71, 3) := by decide +kernel
theorem dX6_setShare_18 : decode cX6_setShare 18 = .ok (.invokestatic 52, 3) := by decide +kernel
theorem dX6_setShare_21 : decode cX6_setShare 21 = .ok (.ifCond .ne 6, 3) := by decide +kernel
theorem dX6_setShare_24 : decode cX6_setShare 24 = .ok (.ldc 63, 2) := by decide +kernel
theorem dX6_setShare_26 : decode cX6_setShare 26 = .ok (.ireturn, 1) := by decide +kernel
theorem dX6_setShare_27 : decode cX6_setShare 27 = .ok (.aload_n 0, 1) := by decide +kernel
theorem dX6_setShare_28 : decode cX6_setShare 28 = .ok (.getfield 16, 3) := by decide +kernel
theorem dX6_setShare_31 : decode cX6_setShare 31 = .ok (.iload_n 1, 1) := by decide +kernel
theorem dX6_setShare_32 : decode cX6_setShare 32 = .ok (.iaload, 1) := by decide +kernel
theorem dX6_setShare_33 : decode cX6_setShare 33 = .ok (.istore_n 3, 1) := by decide +kernel
theorem dX6_setShare_34 : decode cX6_setShare 34 = .ok (.aload_n 0, 1) := by decide +kernel
theorem dX6_setShare_35 : decode cX6_setShare 35 = .ok (.getfield 16, 3) := by decide +kernel
theorem dX6_setShare_38 : decode cX6_setShare 38 = .ok (.iload_n 1, 1) := by decide +kernel
theorem dX6_setShare_39 : decode cX6_setShare 39 = .ok (.iload_n 2, 1) := by decide +kernel
theorem dX6_setShare_40 : decode cX6_setShare 40 = .ok (.iastore, 1) := by decide +kernel
theorem dX6_setShare_41 : decode cX6_setShare 41 = .ok (.iload_n 3, 1) := by decide +kernel
theorem dX6_setShare_42 : decode cX6_setShare 42 = .ok (.ireturn, 1) := by decide +kernel
set_option maxRecDepth 20000 in
theorem ggX6_outSplit_X6_isState : GoodIn wsX6_outSplit wsX6_isState := goodIn_r _ [10, 2, 11, 12, 9, 13, 23, 24, 25, 26, 27, 28, 29, 30, 31, 32, 33, 34] (by decide +kernel) (by decide +kernel)
set_option maxRecDepth 20000 in
theorem gX6_outSplit_X6_isState : GoodIn wsX6_outSplit (wsV RX6 67 RX6 yX6_isState wsX6_isState) := goodIn_app (goodIn_of _ (by decide +kernel)) ggX6_outSplit_X6_isState
set_option maxRecDepth 20000 in
theorem ggX6_outSplit_X6_at : GoodIn wsX6_outSplit wsX6_at := goodIn_r _ [16] (by decide +kernel) (by decide +kernel)
set_option maxRecDepth 20000 in
theorem gX6_outSplit_X6_at : GoodIn wsX6_outSplit (va_wsS RX6 44 yX6_at wsX6_at) := goodIn_app (goodIn_of _ (by decide +kernel)) ggX6_outSplit_X6_at
set_option maxRecDepth 20000 in
theorem ggX6_outSplit_X6_keeps : GoodIn wsX6_outSplit wsX6_keeps := goodIn_r _ [20, 21, 22, 2, 23, 24, 25, 26, 27, 28, 29, 30, 31, 32, 33, 34] (by decide +kernel) (by decide +kernel)
set_option maxRecDepth 20000 in
theorem gX6_outSplit_X6_keeps : GoodIn wsX6_outSplit (wsV RX6 64 RX6 yX6_keeps wsX6_keeps) := goodIn_app (goodIn_of _ (by decide +kernel)) ggX6_outSplit_X6_keeps
theorem dX6_outSplit_0 : decode cX6_outSplit 0 = .ok (.aload_n 0, 1) := by decide +kernel
theorem dX6_outSplit_1 : decode cX6_outSplit 1 = .ok (.iload_n 1, 1) := by decide +kernel
theorem dX6_outSplit_2 : decode cX6_outSplit 2 = .ok (.invokevirtual 67, 3) := by decide +kernel
theorem dX6_outSplit_5 : decode cX6_outSplit 5 = .ok (.ifCond .ne 6, 3) := by decide +kernel
theorem dX6_outSplit_8 : decode cX6_outSplit 8 = .ok (.ldc 63, 2) := by decide +kernel
theorem dX6_outSplit_10 : decode cX6_outSplit 10 = .ok (.ireturn, 1) := by decide +kernel
theorem dX6_outSplit_11 : decode cX6_outSplit 11 = .ok (.aload_n 0, 1) := by decide +kernel
theorem dX6_outSplit_12 : decode cX6_outSplit 12 = .ok (.getfield 7, 3) := by decide +kernel
theorem dX6_outSplit_15 : decode cX6_outSplit 15 = .ok (.iconst 0, 1) := by decide +kernel
theorem dX6_outSplit_16 : decode cX6_outSplit 16 = .ok (.iaload, 1) := by decide +kernel
theorem dX6_outSplit_17 : decode cX6_outSplit 17 = .ok (.istore_n 2, 1) := by decide +kernel
theorem dX6_outSplit_18 : decode cX6_outSplit 18 = .ok (.iconst 0, 1) := by decide +kernel
theorem dX6_outSplit_19 : decode cX6_outSplit 19 = .ok (.istore_n 3, 1) := by decide +kernel
theorem dX6_outSplit_20 : decode cX6_outSplit 20 = .ok (.iload_n 3, 1) := by decide +kernel
theorem dX6_outSplit_21 : decode cX6_outSplit 21 = .ok (.iload_n 2, 1) := by decide +kernel
theorem dX6_outSplit_22 : decode cX6_outSplit 22 = .ok (.if_icmp .ge 31, 3) := by decide +kernel
theorem dX6_outSplit_25 : decode cX6_outSplit 25 = .ok (.aload_n 0, 1) := by decide +kernel
theorem dX6_outSplit_26 : decode cX6_outSplit 26 = .ok (.getfield 16, 3) := by decide +kernel
theorem dX6_outSplit_29 : decode cX6_outSplit 29 = .ok (.iload_n 3, 1) := by decide +kernel
theorem dX6_outSplit_30 : decode cX6_outSplit 30 = .ok (.iaload, 1) := by decide +kernel
theorem dX6_outSplit_31 : decode cX6_outSplit 31 = .ok (.aload_n 0, 1) := by decide +kernel
theorem dX6_outSplit_32 : decode cX6_outSplit 32 = .ok (.getfield 7, 3) := by decide +kernel
theorem dX6_outSplit_35 : decode cX6_outSplit 35 = .ok (.iload_n 1, 1) := by decide +kernel
theorem dX6_outSplit_36 : decode cX6_outSplit 36 = .ok (.iload_n 3, 1) := by decide +kernel
theorem dX6_outSplit_37 : decode cX6_outSplit 37 = .ok (.invokestatic 44, 3) := by decide +kernel
theorem dX6_outSplit_40 : decode cX6_outSplit 40 = .ok (.iaload, 1) := by decide +kernel
theorem dX6_outSplit_41 : decode cX6_outSplit 41 = .ok (.if_icmp .le 6, 3) := by decide +kernel
theorem dX6_outSplit_44 : decode cX6_outSplit 44 = .ok (.ldc 60, 2) := by decide +kernel
theorem dX6_outSplit_46 : decode cX6_outSplit 46 = .ok (.ireturn, 1) := by decide +kernel
theorem dX6_outSplit_47 : decode cX6_outSplit 47 = .ok (.iinc 3 1, 3) := by decide +kernel
theorem dX6_outSplit_50 : decode cX6_outSplit 50 = .ok (.goto (-30), 3) := by decide +kernel
theorem dX6_outSplit_53 : decode cX6_outSplit 53 = .ok (.iload_n 2, 1) := by decide +kernel
theorem dX6_outSplit_54 : decode cX6_outSplit 54 = .ok (.bipush 6, 2) := by decide +kernel
theorem dX6_outSplit_56 : decode cX6_outSplit 56 = .ok (.if_icmp .ne 6, 3) := by decide +kernel
theorem dX6_outSplit_59 : decode cX6_outSplit 59 = .ok (.ldc 145, 2) := by decide +kernel
theorem dX6_outSplit_61 : decode cX6_outSplit 61 = .ok (.ireturn, 1) := by decide +kernel
theorem dX6_outSplit_62 : decode cX6_outSplit 62 = .ok (.aload_n 0, 1) := by decide +kernel
theorem dX6_outSplit_63 : decode cX6_outSplit 63 = .ok (.invokevirtual 64, 3) := by decide +kernel
theorem dX6_outSplit_66 : decode cX6_outSplit 66 = .ok (.iconst 0, 1) := by decide +kernel
theorem dX6_outSplit_67 : decode cX6_outSplit 67 = .ok (.istore_n 3, 1) := by decide +kernel
theorem dX6_outSplit_68 : decode cX6_outSplit 68 = .ok (.iload_n 3, 1) := by decide +kernel
theorem dX6_outSplit_69 : decode cX6_outSplit 69 = .ok (.iload_n 2, 1) := by decide +kernel
theorem dX6_outSplit_70 : decode cX6_outSplit 70 = .ok (.if_icmp .ge 44, 3) := by decide +kernel
theorem dX6_outSplit_73 : decode cX6_outSplit 73 = .ok (.aload_n 0, 1) := by decide +kernel
theorem dX6_outSplit_74 : decode cX6_outSplit 74 = .ok (.getfield 7, 3) := by decide +kernel
theorem dX6_outSplit_77 : decode cX6_outSplit 77 = .ok (.iload_n 1, 1) := by decide +kernel
theorem dX6_outSplit_78 : decode cX6_outSplit 78 = .ok (.iload_n 3, 1) := by decide +kernel
theorem dX6_outSplit_79 : decode cX6_outSplit 79 = .ok (.invokestatic 44, 3) := by decide +kernel
theorem dX6_outSplit_82 : decode cX6_outSplit 82 = .ok (.dup2, 1) := by decide +kernel
theorem dX6_outSplit_83 : decode cX6_outSplit 83 = .ok (.iaload, 1) := by decide +kernel
theorem dX6_outSplit_84 : decode cX6_outSplit 84 = .ok (.aload_n 0, 1) := by decide +kernel
theorem dX6_outSplit_85 : decode cX6_outSplit 85 = .ok (.getfield 16, 3) := by decide +kernel
theorem dX6_outSplit_88 : decode cX6_outSplit 88 = .ok (.iload_n 3, 1) := by decide +kernel
theorem dX6_outSplit_89 : decode cX6_outSplit 89 = .ok (.iaload, 1) := by decide +kernel
theorem dX6_outSplit_90 : decode cX6_outSplit 90 = .ok (.isub, 1) := by decide +kernel
theorem dX6_outSplit_91 : decode cX6_outSplit 91 = .ok (.iastore, 1) := by decide +kernel
theorem dX6_outSplit_92 : decode cX6_outSplit 92 = .ok (.aload_n 0, 1) := by decide +kernel
theorem dX6_outSplit_93 : decode cX6_outSplit 93 = .ok (.getfield 7, 3) := by decide +kernel
theorem dX6_outSplit_96 : decode cX6_outSplit 96 = .ok (.iload_n 2, 1) := by decide +kernel
theorem dX6_outSplit_97 : decode cX6_outSplit 97 = .ok (.iload_n 3, 1) := by decide +kernel
theorem dX6_outSplit_98 : decode cX6_outSplit 98 = .ok (.invokestatic 44, 3) := by decide +kernel
theorem dX6_outSplit_101 : decode cX6_outSplit 101 = .ok (.aload_n 0, 1) := by decide +kernel
theorem dX6_outSplit_102 : decode cX6_outSplit 102 = .ok (.getfield 16, 3) := by decide +kernel
theorem dX6_outSplit_105 : decode cX6_outSplit 105 = .ok (.iload_n 3, 1) := by decide +kernel
theorem dX6_outSplit_106 : decode cX6_outSplit 106 = .ok (.iaload, 1) := by decide +kernel
theorem dX6_outSplit_107 : decode cX6_outSplit 107 = .ok (.iastore, 1) := by decide +kernel
theorem dX6_outSplit_108 : decode cX6_outSplit 108 = .ok (.iinc 3 1, 3) := by decide +kernel
theorem dX6_outSplit_111 : decode cX6_outSplit 111 = .ok (.goto (-43), 3) := by decide +kernel
theorem dX6_outSplit_114 : decode cX6_outSplit 114 = .ok (.iconst 0, 1) := by decide +kernel
theorem dX6_outSplit_115 : decode cX6_outSplit 115 = .ok (.istore_n 3, 1) := by decide +kernel
theorem dX6_outSplit_116 : decode cX6_outSplit 116 = .ok (.iload_n 3, 1) := by decide +kernel
theorem dX6_outSplit_117 : decode cX6_outSplit 117 = .ok (.iload_n 2, 1) := by decide +kernel
theorem dX6_outSplit_118 : decode cX6_outSplit 118 = .ok (.if_icmp .gt 29, 3) := by decide +kernel
theorem dX6_outSplit_121 : decode cX6_outSplit 121 = .ok (.aload_n 0, 1) := by decide +kernel
theorem dX6_outSplit_122 : decode cX6_outSplit 122 = .ok (.getfield 7, 3) := by decide +kernel
theorem dX6_outSplit_125 : decode cX6_outSplit 125 = .ok (.iload_n 3, 1) := by decide +kernel
theorem dX6_outSplit_126 : decode cX6_outSplit 126 = .ok (.iload_n 2, 1) := by decide +kernel
theorem dX6_outSplit_127 : decode cX6_outSplit 127 = .ok (.invokestatic 44, 3) := by decide +kernel
theorem dX6_outSplit_130 : decode cX6_outSplit 130 = .ok (.aload_n 0, 1) := by decide +kernel
theorem dX6_outSplit_131 : decode cX6_outSplit 131 = .ok (.getfield 7, 3) := by decide +kernel
theorem dX6_outSplit_134 : decode cX6_outSplit 134 = .ok (.iload_n 3, 1) := by decide +kernel
theorem dX6_outSplit_135 : decode cX6_outSplit 135 = .ok (.iload_n 1, 1) := by decide +kernel
theorem dX6_outSplit_136 : decode cX6_outSplit 136 = .ok (.invokestatic 44, 3) := by decide +kernel
theorem dX6_outSplit_139 : decode cX6_outSplit 139 = .ok (.iaload, 1) := by decide +kernel
theorem dX6_outSplit_140 : decode cX6_outSplit 140 = .ok (.iastore, 1) := by decide +kernel
theorem dX6_outSplit_141 : decode cX6_outSplit 141 = .ok (.iinc 3 1, 3) := by decide +kernel
theorem dX6_outSplit_144 : decode cX6_outSplit 144 = .ok (.goto (-28), 3) := by decide +kernel
theorem dX6_outSplit_147 : decode cX6_outSplit 147 = .ok (.aload_n 0, 1) := by decide +kernel
theorem dX6_outSplit_148 : decode cX6_outSplit 148 = .ok (.getfield 7, 3) := by decide +kernel
theorem dX6_outSplit_151 : decode cX6_outSplit 151 = .ok (.iconst 0, 1) := by decide +kernel
theorem dX6_outSplit_152 : decode cX6_outSplit 152 = .ok (.iload_n 2, 1) := by decide +kernel
theorem dX6_outSplit_153 : decode cX6_outSplit 153 = .ok (.iconst 1, 1) := by decide +kernel
theorem dX6_outSplit_154 : decode cX6_outSplit 154 = .ok (.iadd, 1) := by decide +kernel
theorem dX6_outSplit_155 : decode cX6_outSplit 155 = .ok (.iastore, 1) := by decide +kernel
theorem dX6_outSplit_156 : decode cX6_outSplit 156 = .ok (.iload_n 2, 1) := by decide +kernel
theorem dX6_outSplit_157 : decode cX6_outSplit 157 = .ok (.iconst 1, 1) := by decide +kernel
theorem dX6_outSplit_158 : decode cX6_outSplit 158 = .ok (.iadd, 1) := by decide +kernel
theorem dX6_outSplit_159 : decode cX6_outSplit 159 = .ok (.ireturn, 1) := by decide +kernel
set_option maxRecDepth 20000 in
theorem ggX6_inSplit_X6_isState : GoodIn wsX6_inSplit wsX6_isState := goodIn_r _ [10, 2, 11, 12, 9, 13, 23, 24, 25, 26, 27, 28, 29, 30, 31, 32, 33, 34] (by decide +kernel) (by decide +kernel)
set_option maxRecDepth 20000 in
theorem gX6_inSplit_X6_isState : GoodIn wsX6_inSplit (wsV RX6 67 RX6 yX6_isState wsX6_isState) := goodIn_app (goodIn_of _ (by decide +kernel)) ggX6_inSplit_X6_isState
set_option maxRecDepth 20000 in
theorem ggX6_inSplit_X6_at : GoodIn wsX6_inSplit wsX6_at := goodIn_r _ [16] (by decide +kernel) (by decide +kernel)
set_option maxRecDepth 20000 in
theorem gX6_inSplit_X6_at : GoodIn wsX6_inSplit (va_wsS RX6 44 yX6_at wsX6_at) := goodIn_app (goodIn_of _ (by decide +kernel)) ggX6_inSplit_X6_at
set_option maxRecDepth 20000 in
theorem ggX6_inSplit_X6_keeps : GoodIn wsX6_inSplit wsX6_keeps := goodIn_r _ [20, 21, 22, 2, 23, 24, 25, 26, 27, 28, 29, 30, 31, 32, 33, 34] (by decide +kernel) (by decide +kernel)
set_option maxRecDepth 20000 in
theorem gX6_inSplit_X6_keeps : GoodIn wsX6_inSplit (wsV RX6 64 RX6 yX6_keeps wsX6_keeps) := goodIn_app (goodIn_of _ (by decide +kernel)) ggX6_inSplit_X6_keeps
theorem dX6_inSplit_0 : decode cX6_inSplit 0 = .ok (.aload_n 0, 1) := by decide +kernel
theorem dX6_inSplit_1 : decode cX6_inSplit 1 = .ok (.iload_n 1, 1) := by decide +kernel
theorem dX6_inSplit_2 : decode cX6_inSplit 2 = .ok (.invokevirtual 67, 3) := by decide +kernel
theorem dX6_inSplit_5 : decode cX6_inSplit 5 = .ok (.ifCond .ne 6, 3) := by decide +kernel
theorem dX6_inSplit_8 : decode cX6_inSplit 8 = .ok (.ldc 63, 2) := by decide +kernel
theorem dX6_inSplit_10 : decode cX6_inSplit 10 = .ok (.ireturn, 1) := by decide +kernel
theorem dX6_inSplit_11 : decode cX6_inSplit 11 = .ok (.aload_n 0, 1) := by decide +kernel
theorem dX6_inSplit_12 : decode cX6_inSplit 12 = .ok (.getfield 7, 3) := by decide +kernel
theorem dX6_inSplit_15 : decode cX6_inSplit 15 = .ok (.iconst 0, 1) := by decide +kernel
theorem dX6_inSplit_16 : decode cX6_inSplit 16 = .ok (.iaload, 1) := by decide +kernel
theorem dX6_inSplit_17 : decode cX6_inSplit 17 = .ok (.istore_n 2, 1) := by decide +kernel
theorem dX6_inSplit_18 : decode cX6_inSplit 18 = .ok (.iconst 0, 1) := by decide +kernel
theorem dX6_inSplit_19 : decode cX6_inSplit 19 = .ok (.istore_n 3, 1) := by decide +kernel
theorem dX6_inSplit_20 : decode cX6_inSplit 20 = .ok (.iload_n 3, 1) := by decide +kernel
theorem dX6_inSplit_21 : decode cX6_inSplit 21 = .ok (.iload_n 2, 1) := by decide +kernel
theorem dX6_inSplit_22 : decode cX6_inSplit 22 = .ok (.if_icmp .ge 31, 3) := by decide +kernel
theorem dX6_inSplit_25 : decode cX6_inSplit 25 = .ok (.aload_n 0, 1) := by decide +kernel
theorem dX6_inSplit_26 : decode cX6_inSplit 26 = .ok (.getfield 16, 3) := by decide +kernel
theorem dX6_inSplit_29 : decode cX6_inSplit 29 = .ok (.iload_n 3, 1) := by decide +kernel
theorem dX6_inSplit_30 : decode cX6_inSplit 30 = .ok (.iaload, 1) := by decide +kernel
theorem dX6_inSplit_31 : decode cX6_inSplit 31 = .ok (.aload_n 0, 1) := by decide +kernel
theorem dX6_inSplit_32 : decode cX6_inSplit 32 = .ok (.getfield 7, 3) := by decide +kernel
theorem dX6_inSplit_35 : decode cX6_inSplit 35 = .ok (.iload_n 3, 1) := by decide +kernel
theorem dX6_inSplit_36 : decode cX6_inSplit 36 = .ok (.iload_n 1, 1) := by decide +kernel
theorem dX6_inSplit_37 : decode cX6_inSplit 37 = .ok (.invokestatic 44, 3) := by decide +kernel
theorem dX6_inSplit_40 : decode cX6_inSplit 40 = .ok (.iaload, 1) := by decide +kernel
theorem dX6_inSplit_41 : decode cX6_inSplit 41 = .ok (.if_icmp .le 6, 3) := by decide +kernel
theorem dX6_inSplit_44 : decode cX6_inSplit 44 = .ok (.ldc 60, 2) := by decide +kernel
theorem dX6_inSplit_46 : decode cX6_inSplit 46 = .ok (.ireturn, 1) := by decide +kernel
theorem dX6_inSplit_47 : decode cX6_inSplit 47 = .ok (.iinc 3 1, 3) := by decide +kernel
theorem dX6_inSplit_50 : decode cX6_inSplit 50 = .ok (.goto (-30), 3) := by decide +kernel
theorem dX6_inSplit_53 : decode cX6_inSplit 53 = .ok (.iload_n 2, 1) := by decide +kernel
theorem dX6_inSplit_54 : decode cX6_inSplit 54 = .ok (.bipush 6, 2) := by decide +kernel
theorem dX6_inSplit_56 : decode cX6_inSplit 56 = .ok (.if_icmp .ne 6, 3) := by decide +kernel
theorem dX6_inSplit_59 : decode cX6_inSplit 59 = .ok (.ldc 145, 2) := by decide +kernel
theorem dX6_inSplit_61 : decode cX6_inSplit 61 = .ok (.ireturn, 1) := by decide +kernel
theorem dX6_inSplit_62 : decode cX6_inSplit 62 = .ok (.aload_n 0, 1) := by decide +kernel
theorem dX6_inSplit_63 : decode cX6_inSplit 63 = .ok (.invokevirtual 64, 3) := by decide +kernel
theorem dX6_inSplit_66 : decode cX6_inSplit 66 = .ok (.iconst 0, 1) := by decide +kernel
theorem dX6_inSplit_67 : decode cX6_inSplit 67 = .ok (.istore_n 3, 1) := by decide +kernel
theorem dX6_inSplit_68 : decode cX6_inSplit 68 = .ok (.iload_n 3, 1) := by decide +kernel
theorem dX6_inSplit_69 : decode cX6_inSplit 69 = .ok (.iload_n 2, 1) := by decide +kernel
theorem dX6_inSplit_70 : decode cX6_inSplit 70 = .ok (.if_icmp .ge 44, 3) := by decide +kernel
theorem dX6_inSplit_73 : decode cX6_inSplit 73 = .ok (.aload_n 0, 1) := by decide +kernel
theorem dX6_inSplit_74 : decode cX6_inSplit 74 = .ok (.getfield 7, 3) := by decide +kernel
theorem dX6_inSplit_77 : decode cX6_inSplit 77 = .ok (.iload_n 3, 1) := by decide +kernel
theorem dX6_inSplit_78 : decode cX6_inSplit 78 = .ok (.iload_n 1, 1) := by decide +kernel
theorem dX6_inSplit_79 : decode cX6_inSplit 79 = .ok (.invokestatic 44, 3) := by decide +kernel
theorem dX6_inSplit_82 : decode cX6_inSplit 82 = .ok (.dup2, 1) := by decide +kernel
theorem dX6_inSplit_83 : decode cX6_inSplit 83 = .ok (.iaload, 1) := by decide +kernel
theorem dX6_inSplit_84 : decode cX6_inSplit 84 = .ok (.aload_n 0, 1) := by decide +kernel
theorem dX6_inSplit_85 : decode cX6_inSplit 85 = .ok (.getfield 16, 3) := by decide +kernel
theorem dX6_inSplit_88 : decode cX6_inSplit 88 = .ok (.iload_n 3, 1) := by decide +kernel
theorem dX6_inSplit_89 : decode cX6_inSplit 89 = .ok (.iaload, 1) := by decide +kernel
theorem dX6_inSplit_90 : decode cX6_inSplit 90 = .ok (.isub, 1) := by decide +kernel
theorem dX6_inSplit_91 : decode cX6_inSplit 91 = .ok (.iastore, 1) := by decide +kernel
theorem dX6_inSplit_92 : decode cX6_inSplit 92 = .ok (.aload_n 0, 1) := by decide +kernel
theorem dX6_inSplit_93 : decode cX6_inSplit 93 = .ok (.getfield 7, 3) := by decide +kernel
theorem dX6_inSplit_96 : decode cX6_inSplit 96 = .ok (.iload_n 3, 1) := by decide +kernel
theorem dX6_inSplit_97 : decode cX6_inSplit 97 = .ok (.iload_n 2, 1) := by decide +kernel
theorem dX6_inSplit_98 : decode cX6_inSplit 98 = .ok (.invokestatic 44, 3) := by decide +kernel
theorem dX6_inSplit_101 : decode cX6_inSplit 101 = .ok (.aload_n 0, 1) := by decide +kernel
theorem dX6_inSplit_102 : decode cX6_inSplit 102 = .ok (.getfield 16, 3) := by decide +kernel
theorem dX6_inSplit_105 : decode cX6_inSplit 105 = .ok (.iload_n 3, 1) := by decide +kernel
theorem dX6_inSplit_106 : decode cX6_inSplit 106 = .ok (.iaload, 1) := by decide +kernel
theorem dX6_inSplit_107 : decode cX6_inSplit 107 = .ok (.iastore, 1) := by decide +kernel
theorem dX6_inSplit_108 : decode cX6_inSplit 108 = .ok (.iinc 3 1, 3) := by decide +kernel
theorem dX6_inSplit_111 : decode cX6_inSplit 111 = .ok (.goto (-43), 3) := by decide +kernel
theorem dX6_inSplit_114 : decode cX6_inSplit 114 = .ok (.iconst 0, 1) := by decide +kernel
theorem dX6_inSplit_115 : decode cX6_inSplit 115 = .ok (.istore_n 3, 1) := by decide +kernel
theorem dX6_inSplit_116 : decode cX6_inSplit 116 = .ok (.iload_n 3, 1) := by decide +kernel
theorem dX6_inSplit_117 : decode cX6_inSplit 117 = .ok (.iload_n 2, 1) := by decide +kernel
theorem dX6_inSplit_118 : decode cX6_inSplit 118 = .ok (.if_icmp .gt 29, 3) := by decide +kernel
theorem dX6_inSplit_121 : decode cX6_inSplit 121 = .ok (.aload_n 0, 1) := by decide +kernel
theorem dX6_inSplit_122 : decode cX6_inSplit 122 = .ok (.getfield 7, 3) := by decide +kernel
theorem dX6_inSplit_125 : decode cX6_inSplit 125 = .ok (.iload_n 2, 1) := by decide +kernel
theorem dX6_inSplit_126 : decode cX6_inSplit 126 = .ok (.iload_n 3, 1) := by decide +kernel
theorem dX6_inSplit_127 : decode cX6_inSplit 127 = .ok (.invokestatic 44, 3) := by decide +kernel
theorem dX6_inSplit_130 : decode cX6_inSplit 130 = .ok (.aload_n 0, 1) := by decide +kernel
theorem dX6_inSplit_131 : decode cX6_inSplit 131 = .ok (.getfield 7, 3) := by decide +kernel
theorem dX6_inSplit_134 : decode cX6_inSplit 134 = .ok (.iload_n 1, 1) := by decide +kernel
theorem dX6_inSplit_135 : decode cX6_inSplit 135 = .ok (.iload_n 3, 1) := by decide +kernel
theorem dX6_inSplit_136 : decode cX6_inSplit 136 = .ok (.invokestatic 44, 3) := by decide +kernel
theorem dX6_inSplit_139 : decode cX6_inSplit 139 = .ok (.iaload, 1) := by decide +kernel
theorem dX6_inSplit_140 : decode cX6_inSplit 140 = .ok (.iastore, 1) := by decide +kernel
theorem dX6_inSplit_141 : decode cX6_inSplit 141 = .ok (.iinc 3 1, 3) := by decide +kernel
theorem dX6_inSplit_144 : decode cX6_inSplit 144 = .ok (.goto (-28), 3) := by decide +kernel
theorem dX6_inSplit_147 : decode cX6_inSplit 147 = .ok (.aload_n 0, 1) := by decide +kernel
theorem dX6_inSplit_148 : decode cX6_inSplit 148 = .ok (.getfield 7, 3) := by decide +kernel
theorem dX6_inSplit_151 : decode cX6_inSplit 151 = .ok (.iconst 0, 1) := by decide +kernel
theorem dX6_inSplit_152 : decode cX6_inSplit 152 = .ok (.iload_n 2, 1) := by decide +kernel
theorem dX6_inSplit_153 : decode cX6_inSplit 153 = .ok (.iconst 1, 1) := by decide +kernel
theorem dX6_inSplit_154 : decode cX6_inSplit 154 = .ok (.iadd, 1) := by decide +kernel
theorem dX6_inSplit_155 : decode cX6_inSplit 155 = .ok (.iastore, 1) := by decide +kernel
theorem dX6_inSplit_156 : decode cX6_inSplit 156 = .ok (.iload_n 2, 1) := by decide +kernel
theorem dX6_inSplit_157 : decode cX6_inSplit 157 = .ok (.iconst 1, 1) := by decide +kernel
theorem dX6_inSplit_158 : decode cX6_inSplit 158 = .ok (.iadd, 1) := by decide +kernel
theorem dX6_inSplit_159 : decode cX6_inSplit 159 = .ok (.ireturn, 1) := by decide +kernel
set_option maxRecDepth 20000 in
theorem ggX6_outMerge_X6_isState : GoodIn wsX6_outMerge wsX6_isState := goodIn_r _ [9, 2, 10, 11, 8, 12, 30, 31, 32, 33, 34, 35, 36, 37, 38, 39, 40, 41] (by decide +kernel) (by decide +kernel)
set_option maxRecDepth 20000 in
theorem gX6_outMerge_X6_isState : GoodIn wsX6_outMerge (wsV RX6 67 RX6 yX6_isState wsX6_isState) := goodIn_app (goodIn_of _ (by decide +kernel)) ggX6_outMerge_X6_isState
set_option maxRecDepth 20000 in
theorem ggX6_outMerge_X6_at : GoodIn wsX6_outMerge wsX6_at := goodIn_r _ [15] (by decide +kernel) (by decide +kernel)
set_option maxRecDepth 20000 in
theorem gX6_outMerge_X6_at : GoodIn wsX6_outMerge (va_wsS RX6 44 yX6_at wsX6_at) := goodIn_app (goodIn_of _ (by decide +kernel)) ggX6_outMerge_X6_at
set_option maxRecDepth 20000 in
theorem ggX6_outMerge_X6_keeps : GoodIn wsX6_outMerge wsX6_keeps := goodIn_r _ [19, 20, 21, 2, 30, 31, 32, 33, 34, 35, 36, 37, 38, 39, 40, 41] (by decide +kernel) (by decide +kernel)
set_option maxRecDepth 20000 in
theorem gX6_outMerge_X6_keeps : GoodIn wsX6_outMerge (wsV RX6 64 RX6 yX6_keeps wsX6_keeps) := goodIn_app (goodIn_of _ (by decide +kernel)) ggX6_outMerge_X6_keeps
set_option maxRecDepth 20000 in
theorem ggX6_outMerge_X6_goes : GoodIn wsX6_outMerge wsX6_goes := goodIn_r _ [25, 2, 13, 14, 8, 15, 26, 27, 28, 29, 30, 31, 32, 33, 34, 35, 36, 37, 38, 39, 40, 41] (by decide +kernel) (by decide +kernel)
set_option maxRecDepth 20000 in
theorem gX6_outMerge_X6_goes : GoodIn wsX6_outMerge (wsV RX6 86 RX6 yX6_goes wsX6_goes) := goodIn_app (goodIn_of _ (by decide +kernel)) ggX6_outMerge_X6_goes
theorem dX6_outMerge_0 : decode cX6_outMerge 0 = .ok (.aload_n 0, 1) := by decide +kernel
theorem dX6_outMerge_1 : decode cX6_outMerge 1 = .ok (.iload_n 1, 1) := by decide +kernel
theorem dX6_outMerge_2 : decode cX6_outMerge 2 = .ok (.invokevirtual 67, 3) := by decide +kernel
theorem dX6_outMerge_5 : decode cX6_outMerge 5 = .ok (.ifCond .eq 16, 3) := by decide +kernel
theorem dX6_outMerge_8 : decode cX6_outMerge 8 = .ok (.aload_n 0, 1) := by decide +kernel
theorem dX6_outMerge_9 : decode cX6_outMerge 9 = .ok (.iload_n 2, 1) := by decide +kernel
theorem dX6_outMerge_10 : decode cX6_outMerge 10 = .ok (.invokevirtual 67, 3) := by decide +kernel
theorem dX6_outMerge_13 : decode cX6_outMerge 13 = .ok (.ifCond .eq 8, 3) := by decide +kernel
theorem dX6_outMerge_16 : decode cX6_outMerge 16 = .ok (.iload_n 1, 1) := by decide +kernel
theorem dX6_outMerge_17 : decode cX6_outMerge 17 = .ok (.iload_n 2, 1) := by decide +kernel
theorem dX6_outMerge_18 : decode cX6_outMerge 18 = .ok (.if_icmp .ne 6, 3) := by decide +kernel
theorem dX6_outMerge_21 : decode cX6_outMerge 21 = .ok (.ldc 63, 2) := by decide +kernel
theorem dX6_outMerge_23 : decode cX6_outMerge 23 = .ok (.ireturn, 1) := by decide +kernel
theorem dX6_outMerge_24 : decode cX6_outMerge 24 = .ok (.iload_n 1, 1) := by decide +kernel
theorem dX6_outMerge_25 : decode cX6_outMerge 25 = .ok (.iload_n 2, 1) := by decide +kernel
theorem dX6_outMerge_26 : decode cX6_outMerge 26 = .ok (.if_icmp .ge 7, 3) := by decide +kernel
theorem dX6_outMerge_29 : decode cX6_outMerge 29 = .ok (.iload_n 1, 1) := by decide +kernel
theorem dX6_outMerge_30 : decode cX6_outMerge 30 = .ok (.goto 4, 3) := by decide +kernel
theorem dX6_outMerge_33 : decode cX6_outMerge 33 = .ok (.iload_n 2, 1) := by decide +kernel
theorem dX6_outMerge_34 : decode cX6_outMerge 34 = .ok (.istore_n 3, 1) := by decide +kernel
theorem dX6_outMerge_35 : decode cX6_outMerge 35 = .ok (.iload_n 1, 1) := by decide +kernel
theorem dX6_outMerge_36 : decode cX6_outMerge 36 = .ok (.iload_n 2, 1) := by decide +kernel
theorem dX6_outMerge_37 : decode cX6_outMerge 37 = .ok (.if_icmp .ge 7, 3) := by decide +kernel
theorem dX6_outMerge_40 : decode cX6_outMerge 40 = .ok (.iload_n 2, 1) := by decide +kernel
theorem dX6_outMerge_41 : decode cX6_outMerge 41 = .ok (.goto 4, 3) := by decide +kernel
theorem dX6_outMerge_44 : decode cX6_outMerge 44 = .ok (.iload_n 1, 1) := by decide +kernel
theorem dX6_outMerge_45 : decode cX6_outMerge 45 = .ok (.istore 4, 2) := by decide +kernel
theorem dX6_outMerge_47 : decode cX6_outMerge 47 = .ok (.iconst 1, 1) := by decide +kernel
theorem dX6_outMerge_48 : decode cX6_outMerge 48 = .ok (.istore 5, 2) := by decide +kernel
theorem dX6_outMerge_50 : decode cX6_outMerge 50 = .ok (.iconst 0, 1) := by decide +kernel
theorem dX6_outMerge_51 : decode cX6_outMerge 51 = .ok (.istore 6, 2) := by decide +kernel
theorem dX6_outMerge_53 : decode cX6_outMerge 53 = .ok (.iload 6, 2) := by decide +kernel
theorem dX6_outMerge_55 : decode cX6_outMerge 55 = .ok (.aload_n 0, 1) := by decide +kernel
theorem dX6_outMerge_56 : decode cX6_outMerge 56 = .ok (.getfield 7, 3) := by decide +kernel
theorem dX6_outMerge_59 : decode cX6_outMerge 59 = .ok (.iconst 0, 1) := by decide +kernel
theorem dX6_outMerge_60 : decode cX6_outMerge 60 = .ok (.iaload, 1) := by decide +kernel
theorem dX6_outMerge_61 : decode cX6_outMerge 61 = .ok (.if_icmp .ge 86, 3) := by decide +kernel
theorem dX6_outMerge_64 : decode cX6_outMerge 64 = .ok (.aload_n 0, 1) := by decide +kernel
theorem dX6_outMerge_65 : decode cX6_outMerge 65 = .ok (.getfield 7, 3) := by decide +kernel
theorem dX6_outMerge_68 : decode cX6_outMerge 68 = .ok (.iload 6, 2) := by decide +kernel
theorem dX6_outMerge_70 : decode cX6_outMerge 70 = .ok (.iload_n 3, 1) := by decide +kernel
theorem dX6_outMerge_71 : decode cX6_outMerge 71 = .ok (.invokestatic 44, 3) := by decide +kernel
theorem dX6_outMerge_74 : decode cX6_outMerge 74 = .ok (.iaload, 1) := by decide +kernel
theorem dX6_outMerge_75 : decode cX6_outMerge 75 = .ok (.aload_n 0, 1) := by decide +kernel
theorem dX6_outMerge_76 : decode cX6_outMerge 76 = .ok (.getfield 7, 3) := by decide +kernel
theorem dX6_outMerge_79 : decode cX6_outMerge 79 = .ok (.iload 6, 2) := by decide +kernel
theorem dX6_outMerge_81 : decode cX6_outMerge 81 = .ok (.iload 4, 2) := by decide +kernel
theorem dX6_outMerge_83 : decode cX6_outMerge 83 = .ok (.invokestatic 44, 3) := by decide +kernel
theorem dX6_outMerge_86 : decode cX6_outMerge 86 = .ok (.iaload, 1) := by decide +kernel
theorem dX6_outMerge_87 : decode cX6_outMerge 87 = .ok (.if_icmp .eq 6, 3) := by decide +kernel
theorem dX6_outMerge_90 : decode cX6_outMerge 90 = .ok (.ldc 60, 2) := by decide +kernel
theorem dX6_outMerge_92 : decode cX6_outMerge 92 = .ok (.ireturn, 1) := by decide +kernel
theorem dX6_outMerge_93 : decode cX6_outMerge 93 = .ok (.iload 5, 2) := by decide +kernel
theorem dX6_outMerge_95 : decode cX6_outMerge 95 = .ok (.ifCond .eq 43, 3) := by decide +kernel
theorem dX6_outMerge_98 : decode cX6_outMerge 98 = .ok (.iload 6, 2) := by decide +kernel
theorem dX6_outMerge_100 : decode cX6_outMerge 100 = .ok (.iload 4, 2) := by decide +kernel
theorem dX6_outMerge_102 : decode cX6_outMerge 102 = .ok (.if_icmp .eq 32, 3) := by decide +kernel
theorem dX6_outMerge_105 : decode cX6_outMerge 105 = .ok (.aload_n 0, 1) := by decide +kernel
theorem dX6_outMerge_106 : decode cX6_outMerge 106 = .ok (.getfield 7, 3) := by decide +kernel
theorem dX6_outMerge_109 : decode cX6_outMerge 109 = .ok (.iload_n 3, 1) := by decide +kernel
theorem dX6_outMerge_110 : decode cX6_outMerge 110 = .ok (.iload 6, 2) := by decide +kernel
theorem dX6_outMerge_112 : decode cX6_outMerge 112 = .ok (.invokestatic 44, 3) := by decide +kernel
theorem dX6_outMerge_115 : decode cX6_outMerge 115 = .ok (.iaload, 1) := by decide +kernel
theorem dX6_outMerge_116 : decode cX6_outMerge 116 = .ok (.aload_n 0, 1) := by decide +kernel
theorem dX6_outMerge_117 : decode cX6_outMerge 117 = .ok (.getfield 7, 3) := by decide +kernel
theorem dX6_outMerge_120 : decode cX6_outMerge 120 = .ok (.iload 4, 2) := by decide +kernel
theorem dX6_outMerge_122 : decode cX6_outMerge 122 = .ok (.iload 6, 2) := by decide +kernel
theorem dX6_outMerge_124 : decode cX6_outMerge 124 = .ok (.invokestatic 44, 3) := by decide +kernel
theorem dX6_outMerge_127 : decode cX6_outMerge 127 = .ok (.iaload, 1) := by decide +kernel
theorem dX6_outMerge_128 : decode cX6_outMerge 128 = .ok (.iadd, 1) := by decide +kernel
theorem dX6_outMerge_129 : decode cX6_outMerge 129 = .ok (.bipush 9, 2) := by decide +kernel
theorem dX6_outMerge_131 : decode cX6_outMerge 131 = .ok (.if_icmp .gt 7, 3) := by decide +kernel
theorem dX6_outMerge_134 : decode cX6_outMerge 134 = .ok (.iconst 1, 1) := by decide +kernel
theorem dX6_outMerge_135 : decode cX6_outMerge 135 = .ok (.goto 4, 3) := by decide +kernel
theorem dX6_outMerge_138 : decode cX6_outMerge 138 = .ok (.iconst 0, 1) := by decide +kernel
theorem dX6_outMerge_139 : decode cX6_outMerge 139 = .ok (.istore 5, 2) := by decide +kernel
theorem dX6_outMerge_141 : decode cX6_outMerge 141 = .ok (.iinc 6 1, 3) := by decide +kernel
theorem dX6_outMerge_144 : decode cX6_outMerge 144 = .ok (.goto (-91), 3) := by decide +kernel
theorem dX6_outMerge_147 : decode cX6_outMerge 147 = .ok (.iload 5, 2) := by decide +kernel
theorem dX6_outMerge_149 : decode cX6_outMerge 149 = .ok (.ifCond .ne 6, 3) := by decide +kernel
theorem dX6_outMerge_152 : decode cX6_outMerge 152 = .ok (.ldc 145, 2) := by decide +kernel
theorem dX6_outMerge_154 : decode cX6_outMerge 154 = .ok (.ireturn, 1) := by decide +kernel
theorem dX6_outMerge_155 : decode cX6_outMerge 155 = .ok (.aload_n 0, 1) := by decide +kernel
theorem dX6_outMerge_156 : decode cX6_outMerge 156 = .ok (.invokevirtual 64, 3) := by decide +kernel
theorem dX6_outMerge_159 : decode cX6_outMerge 159 = .ok (.iconst 0, 1) := by decide +kernel
theorem dX6_outMerge_160 : decode cX6_outMerge 160 = .ok (.istore 6, 2) := by decide +kernel
theorem dX6_outMerge_162 : decode cX6_outMerge 162 = .ok (.iload 6, 2) := by decide +kernel
theorem dX6_outMerge_164 : decode cX6_outMerge 164 = .ok (.aload_n 0, 1) := by decide +kernel
theorem dX6_outMerge_165 : decode cX6_outMerge 165 = .ok (.getfield 7, 3) := by decide +kernel
theorem dX6_outMerge_168 : decode cX6_outMerge 168 = .ok (.iconst 0, 1) := by decide +kernel
theorem dX6_outMerge_169 : decode cX6_outMerge 169 = .ok (.iaload, 1) := by decide +kernel
theorem dX6_outMerge_170 : decode cX6_outMerge 170 = .ok (.if_icmp .ge 35, 3) := by decide +kernel
theorem dX6_outMerge_173 : decode cX6_outMerge 173 = .ok (.aload_n 0, 1) := by decide +kernel
theorem dX6_outMerge_174 : decode cX6_outMerge 174 = .ok (.getfield 7, 3) := by decide +kernel
theorem dX6_outMerge_177 : decode cX6_outMerge 177 = .ok (.iload_n 3, 1) := by decide +kernel
theorem dX6_outMerge_178 : decode cX6_outMerge 178 = .ok (.iload 6, 2) := by decide +kernel
theorem dX6_outMerge_180 : decode cX6_outMerge 180 = .ok (.invokestatic 44, 3) := by decide +kernel
theorem dX6_outMerge_183 : decode cX6_outMerge 183 = .ok (.dup2, 1) := by decide +kernel
theorem dX6_outMerge_184 : decode cX6_outMerge 184 = .ok (.iaload, 1) := by decide +kernel
theorem dX6_outMerge_185 : decode cX6_outMerge 185 = .ok (.aload_n 0, 1) := by decide +kernel
theorem dX6_outMerge_186 : decode cX6_outMerge 186 = .ok (.getfield 7, 3) := by decide +kernel
theorem dX6_outMerge_189 : decode cX6_outMerge 189 = .ok (.iload 4, 2) := by decide +kernel
theorem dX6_outMerge_191 : decode cX6_outMerge 191 = .ok (.iload 6, 2) := by decide +kernel
theorem dX6_outMerge_193 : decode cX6_outMerge 193 = .ok (.invokestatic 44, 3) := by decide +kernel
theorem dX6_outMerge_196 : decode cX6_outMerge 196 = .ok (.iaload, 1) := by decide +kernel
theorem dX6_outMerge_197 : decode cX6_outMerge 197 = .ok (.iadd, 1) := by decide +kernel
theorem dX6_outMerge_198 : decode cX6_outMerge 198 = .ok (.iastore, 1) := by decide +kernel
theorem dX6_outMerge_199 : decode cX6_outMerge 199 = .ok (.iinc 6 1, 3) := by decide +kernel
theorem dX6_outMerge_202 : decode cX6_outMerge 202 = .ok (.goto (-40), 3) := by decide +kernel
theorem dX6_outMerge_205 : decode cX6_outMerge 205 = .ok (.aload_n 0, 1) := by decide +kernel
theorem dX6_outMerge_206 : decode cX6_outMerge 206 = .ok (.iload 4, 2) := by decide +kernel
theorem dX6_outMerge_208 : decode cX6_outMerge 208 = .ok (.invokevirtual 86, 3) := by decide +kernel
theorem dX6_outMerge_211 : decode cX6_outMerge 211 = .ok (.aload_n 0, 1) := by decide +kernel
theorem dX6_outMerge_212 : decode cX6_outMerge 212 = .ok (.getfield 7, 3) := by decide +kernel
theorem dX6_outMerge_215 : decode cX6_outMerge 215 = .ok (.iconst 0, 1) := by decide +kernel
theorem dX6_outMerge_216 : decode cX6_outMerge 216 = .ok (.iaload, 1) := by decide +kernel
theorem dX6_outMerge_217 : decode cX6_outMerge 217 = .ok (.ireturn, 1) := by decide +kernel
set_option maxRecDepth 20000 in
theorem ggX6_inMerge_X6_isState : GoodIn wsX6_inMerge wsX6_isState := goodIn_r _ [9, 2, 10, 11, 8, 12, 30, 31, 32, 33, 34, 35, 36, 37, 38, 39, 40, 41] (by decide +kernel) (by decide +kernel)
set_option maxRecDepth 20000 in
theorem gX6_inMerge_X6_isState : GoodIn wsX6_inMerge (wsV RX6 67 RX6 yX6_isState wsX6_isState) := goodIn_app (goodIn_of _ (by decide +kernel)) ggX6_inMerge_X6_isState
set_option maxRecDepth 20000 in
theorem ggX6_inMerge_X6_at : GoodIn wsX6_inMerge wsX6_at := goodIn_r _ [15] (by decide +kernel) (by decide +kernel)
set_option maxRecDepth 20000 in
theorem gX6_inMerge_X6_at : GoodIn wsX6_inMerge (va_wsS RX6 44 yX6_at wsX6_at) := goodIn_app (goodIn_of _ (by decide +kernel)) ggX6_inMerge_X6_at
set_option maxRecDepth 20000 in
theorem ggX6_inMerge_X6_keeps : GoodIn wsX6_inMerge wsX6_keeps := goodIn_r _ [19, 20, 21, 2, 30, 31, 32, 33, 34, 35, 36, 37, 38, 39, 40, 41] (by decide +kernel) (by decide +kernel)
set_option maxRecDepth 20000 in
theorem gX6_inMerge_X6_keeps : GoodIn wsX6_inMerge (wsV RX6 64 RX6 yX6_keeps wsX6_keeps) := goodIn_app (goodIn_of _ (by decide +kernel)) ggX6_inMerge_X6_keeps
set_option maxRecDepth 20000 in
theorem ggX6_inMerge_X6_goes : GoodIn wsX6_inMerge wsX6_goes := goodIn_r _ [25, 2, 13, 14, 8, 15, 26, 27, 28, 29, 30, 31, 32, 33, 34, 35, 36, 37, 38, 39, 40, 41] (by decide +kernel) (by decide +kernel)
set_option maxRecDepth 20000 in
theorem gX6_inMerge_X6_goes : GoodIn wsX6_inMerge (wsV RX6 86 RX6 yX6_goes wsX6_goes) := goodIn_app (goodIn_of _ (by decide +kernel)) ggX6_inMerge_X6_goes
theorem dX6_inMerge_0 : decode cX6_inMerge 0 = .ok (.aload_n 0, 1) := by decide +kernel
theorem dX6_inMerge_1 : decode cX6_inMerge 1 = .ok (.iload_n 1, 1) := by decide +kernel
theorem dX6_inMerge_2 : decode cX6_inMerge 2 = .ok (.invokevirtual 67, 3) := by decide +kernel
theorem dX6_inMerge_5 : decode cX6_inMerge 5 = .ok (.ifCond .eq 16, 3) := by decide +kernel
theorem dX6_inMerge_8 : decode cX6_inMerge 8 = .ok (.aload_n 0, 1) := by decide +kernel
theorem dX6_inMerge_9 : decode cX6_inMerge 9 = .ok (.iload_n 2, 1) := by decide +kernel
theorem dX6_inMerge_10 : decode cX6_inMerge 10 = .ok (.invokevirtual 67, 3) := by decide +kernel
theorem dX6_inMerge_13 : decode cX6_inMerge 13 = .ok (.ifCond .eq 8, 3) := by decide +kernel
theorem dX6_inMerge_16 : decode cX6_inMerge 16 = .ok (.iload_n 1, 1) := by decide +kernel
theorem dX6_inMerge_17 : decode cX6_inMerge 17 = .ok (.iload_n 2, 1) := by decide +kernel
theorem dX6_inMerge_18 : decode cX6_inMerge 18 = .ok (.if_icmp .ne 6, 3) := by decide +kernel
theorem dX6_inMerge_21 : decode cX6_inMerge 21 = .ok (.ldc 63, 2) := by decide +kernel
theorem dX6_inMerge_23 : decode cX6_inMerge 23 = .ok (.ireturn, 1) := by decide +kernel
theorem dX6_inMerge_24 : decode cX6_inMerge 24 = .ok (.iload_n 1, 1) := by decide +kernel
theorem dX6_inMerge_25 : decode cX6_inMerge 25 = .ok (.iload_n 2, 1) := by decide +kernel
theorem dX6_inMerge_26 : decode cX6_inMerge 26 = .ok (.if_icmp .ge 7, 3) := by decide +kernel
theorem dX6_inMerge_29 : decode cX6_inMerge 29 = .ok (.iload_n 1, 1) := by decide +kernel
theorem dX6_inMerge_30 : decode cX6_inMerge 30 = .ok (.goto 4, 3) := by decide +kernel
theorem dX6_inMerge_33 : decode cX6_inMerge 33 = .ok (.iload_n 2, 1) := by decide +kernel
theorem dX6_inMerge_34 : decode cX6_inMerge 34 = .ok (.istore_n 3, 1) := by decide +kernel
theorem dX6_inMerge_35 : decode cX6_inMerge 35 = .ok (.iload_n 1, 1) := by decide +kernel
theorem dX6_inMerge_36 : decode cX6_inMerge 36 = .ok (.iload_n 2, 1) := by decide +kernel
theorem dX6_inMerge_37 : decode cX6_inMerge 37 = .ok (.if_icmp .ge 7, 3) := by decide +kernel
theorem dX6_inMerge_40 : decode cX6_inMerge 40 = .ok (.iload_n 2, 1) := by decide +kernel
theorem dX6_inMerge_41 : decode cX6_inMerge 41 = .ok (.goto 4, 3) := by decide +kernel
theorem dX6_inMerge_44 : decode cX6_inMerge 44 = .ok (.iload_n 1, 1) := by decide +kernel
theorem dX6_inMerge_45 : decode cX6_inMerge 45 = .ok (.istore 4, 2) := by decide +kernel
theorem dX6_inMerge_47 : decode cX6_inMerge 47 = .ok (.iconst 1, 1) := by decide +kernel
theorem dX6_inMerge_48 : decode cX6_inMerge 48 = .ok (.istore 5, 2) := by decide +kernel
theorem dX6_inMerge_50 : decode cX6_inMerge 50 = .ok (.iconst 0, 1) := by decide +kernel
theorem dX6_inMerge_51 : decode cX6_inMerge 51 = .ok (.istore 6, 2) := by decide +kernel
theorem dX6_inMerge_53 : decode cX6_inMerge 53 = .ok (.iload 6, 2) := by decide +kernel
theorem dX6_inMerge_55 : decode cX6_inMerge 55 = .ok (.aload_n 0, 1) := by decide +kernel
theorem dX6_inMerge_56 : decode cX6_inMerge 56 = .ok (.getfield 7, 3) := by decide +kernel
theorem dX6_inMerge_59 : decode cX6_inMerge 59 = .ok (.iconst 0, 1) := by decide +kernel
theorem dX6_inMerge_60 : decode cX6_inMerge 60 = .ok (.iaload, 1) := by decide +kernel
theorem dX6_inMerge_61 : decode cX6_inMerge 61 = .ok (.if_icmp .ge 86, 3) := by decide +kernel
theorem dX6_inMerge_64 : decode cX6_inMerge 64 = .ok (.aload_n 0, 1) := by decide +kernel
theorem dX6_inMerge_65 : decode cX6_inMerge 65 = .ok (.getfield 7, 3) := by decide +kernel
theorem dX6_inMerge_68 : decode cX6_inMerge 68 = .ok (.iload_n 3, 1) := by decide +kernel
theorem dX6_inMerge_69 : decode cX6_inMerge 69 = .ok (.iload 6, 2) := by decide +kernel
theorem dX6_inMerge_71 : decode cX6_inMerge 71 = .ok (.invokestatic 44, 3) := by decide +kernel
theorem dX6_inMerge_74 : decode cX6_inMerge 74 = .ok (.iaload, 1) := by decide +kernel
theorem dX6_inMerge_75 : decode cX6_inMerge 75 = .ok (.aload_n 0, 1) := by decide +kernel
theorem dX6_inMerge_76 : decode cX6_inMerge 76 = .ok (.getfield 7, 3) := by decide +kernel
theorem dX6_inMerge_79 : decode cX6_inMerge 79 = .ok (.iload 4, 2) := by decide +kernel
theorem dX6_inMerge_81 : decode cX6_inMerge 81 = .ok (.iload 6, 2) := by decide +kernel
theorem dX6_inMerge_83 : decode cX6_inMerge 83 = .ok (.invokestatic 44, 3) := by decide +kernel
theorem dX6_inMerge_86 : decode cX6_inMerge 86 = .ok (.iaload, 1) := by decide +kernel
theorem dX6_inMerge_87 : decode cX6_inMerge 87 = .ok (.if_icmp .eq 6, 3) := by decide +kernel
theorem dX6_inMerge_90 : decode cX6_inMerge 90 = .ok (.ldc 60, 2) := by decide +kernel
theorem dX6_inMerge_92 : decode cX6_inMerge 92 = .ok (.ireturn, 1) := by decide +kernel
theorem dX6_inMerge_93 : decode cX6_inMerge 93 = .ok (.iload 5, 2) := by decide +kernel
theorem dX6_inMerge_95 : decode cX6_inMerge 95 = .ok (.ifCond .eq 43, 3) := by decide +kernel
theorem dX6_inMerge_98 : decode cX6_inMerge 98 = .ok (.iload 6, 2) := by decide +kernel
theorem dX6_inMerge_100 : decode cX6_inMerge 100 = .ok (.iload 4, 2) := by decide +kernel
theorem dX6_inMerge_102 : decode cX6_inMerge 102 = .ok (.if_icmp .eq 32, 3) := by decide +kernel
theorem dX6_inMerge_105 : decode cX6_inMerge 105 = .ok (.aload_n 0, 1) := by decide +kernel
theorem dX6_inMerge_106 : decode cX6_inMerge 106 = .ok (.getfield 7, 3) := by decide +kernel
theorem dX6_inMerge_109 : decode cX6_inMerge 109 = .ok (.iload 6, 2) := by decide +kernel
theorem dX6_inMerge_111 : decode cX6_inMerge 111 = .ok (.iload_n 3, 1) := by decide +kernel
theorem dX6_inMerge_112 : decode cX6_inMerge 112 = .ok (.invokestatic 44, 3) := by decide +kernel
theorem dX6_inMerge_115 : decode cX6_inMerge 115 = .ok (.iaload, 1) := by decide +kernel
theorem dX6_inMerge_116 : decode cX6_inMerge 116 = .ok (.aload_n 0, 1) := by decide +kernel
theorem dX6_inMerge_117 : decode cX6_inMerge 117 = .ok (.getfield 7, 3) := by decide +kernel
theorem dX6_inMerge_120 : decode cX6_inMerge 120 = .ok (.iload 6, 2) := by decide +kernel
theorem dX6_inMerge_122 : decode cX6_inMerge 122 = .ok (.iload 4, 2) := by decide +kernel
theorem dX6_inMerge_124 : decode cX6_inMerge 124 = .ok (.invokestatic 44, 3) := by decide +kernel
theorem dX6_inMerge_127 : decode cX6_inMerge 127 = .ok (.iaload, 1) := by decide +kernel
theorem dX6_inMerge_128 : decode cX6_inMerge 128 = .ok (.iadd, 1) := by decide +kernel
theorem dX6_inMerge_129 : decode cX6_inMerge 129 = .ok (.bipush 9, 2) := by decide +kernel
theorem dX6_inMerge_131 : decode cX6_inMerge 131 = .ok (.if_icmp .gt 7, 3) := by decide +kernel
theorem dX6_inMerge_134 : decode cX6_inMerge 134 = .ok (.iconst 1, 1) := by decide +kernel
theorem dX6_inMerge_135 : decode cX6_inMerge 135 = .ok (.goto 4, 3) := by decide +kernel
theorem dX6_inMerge_138 : decode cX6_inMerge 138 = .ok (.iconst 0, 1) := by decide +kernel
theorem dX6_inMerge_139 : decode cX6_inMerge 139 = .ok (.istore 5, 2) := by decide +kernel
theorem dX6_inMerge_141 : decode cX6_inMerge 141 = .ok (.iinc 6 1, 3) := by decide +kernel
theorem dX6_inMerge_144 : decode cX6_inMerge 144 = .ok (.goto (-91), 3) := by decide +kernel
theorem dX6_inMerge_147 : decode cX6_inMerge 147 = .ok (.iload 5, 2) := by decide +kernel
theorem dX6_inMerge_149 : decode cX6_inMerge 149 = .ok (.ifCond .ne 6, 3) := by decide +kernel
theorem dX6_inMerge_152 : decode cX6_inMerge 152 = .ok (.ldc 145, 2) := by decide +kernel
theorem dX6_inMerge_154 : decode cX6_inMerge 154 = .ok (.ireturn, 1) := by decide +kernel
theorem dX6_inMerge_155 : decode cX6_inMerge 155 = .ok (.aload_n 0, 1) := by decide +kernel
theorem dX6_inMerge_156 : decode cX6_inMerge 156 = .ok (.invokevirtual 64, 3) := by decide +kernel
theorem dX6_inMerge_159 : decode cX6_inMerge 159 = .ok (.iconst 0, 1) := by decide +kernel
theorem dX6_inMerge_160 : decode cX6_inMerge 160 = .ok (.istore 6, 2) := by decide +kernel
theorem dX6_inMerge_162 : decode cX6_inMerge 162 = .ok (.iload 6, 2) := by decide +kernel
theorem dX6_inMerge_164 : decode cX6_inMerge 164 = .ok (.aload_n 0, 1) := by decide +kernel
theorem dX6_inMerge_165 : decode cX6_inMerge 165 = .ok (.getfield 7, 3) := by decide +kernel
theorem dX6_inMerge_168 : decode cX6_inMerge 168 = .ok (.iconst 0, 1) := by decide +kernel
theorem dX6_inMerge_169 : decode cX6_inMerge 169 = .ok (.iaload, 1) := by decide +kernel
theorem dX6_inMerge_170 : decode cX6_inMerge 170 = .ok (.if_icmp .ge 35, 3) := by decide +kernel
theorem dX6_inMerge_173 : decode cX6_inMerge 173 = .ok (.aload_n 0, 1) := by decide +kernel
theorem dX6_inMerge_174 : decode cX6_inMerge 174 = .ok (.getfield 7, 3) := by decide +kernel
theorem dX6_inMerge_177 : decode cX6_inMerge 177 = .ok (.iload 6, 2) := by decide +kernel
theorem dX6_inMerge_179 : decode cX6_inMerge 179 = .ok (.iload_n 3, 1) := by decide +kernel
theorem dX6_inMerge_180 : decode cX6_inMerge 180 = .ok (.invokestatic 44, 3) := by decide +kernel
theorem dX6_inMerge_183 : decode cX6_inMerge 183 = .ok (.dup2, 1) := by decide +kernel
theorem dX6_inMerge_184 : decode cX6_inMerge 184 = .ok (.iaload, 1) := by decide +kernel
theorem dX6_inMerge_185 : decode cX6_inMerge 185 = .ok (.aload_n 0, 1) := by decide +kernel
theorem dX6_inMerge_186 : decode cX6_inMerge 186 = .ok (.getfield 7, 3) := by decide +kernel
theorem dX6_inMerge_189 : decode cX6_inMerge 189 = .ok (.iload 6, 2) := by decide +kernel
theorem dX6_inMerge_191 : decode cX6_inMerge 191 = .ok (.iload 4, 2) := by decide +kernel
theorem dX6_inMerge_193 : decode cX6_inMerge 193 = .ok (.invokestatic 44, 3) := by decide +kernel
theorem dX6_inMerge_196 : decode cX6_inMerge 196 = .ok (.iaload, 1) := by decide +kernel
theorem dX6_inMerge_197 : decode cX6_inMerge 197 = .ok (.iadd, 1) := by decide +kernel
theorem dX6_inMerge_198 : decode cX6_inMerge 198 = .ok (.iastore, 1) := by decide +kernel
theorem dX6_inMerge_199 : decode cX6_inMerge 199 = .ok (.iinc 6 1, 3) := by decide +kernel
theorem dX6_inMerge_202 : decode cX6_inMerge 202 = .ok (.goto (-40), 3) := by decide +kernel
theorem dX6_inMerge_205 : decode cX6_inMerge 205 = .ok (.aload_n 0, 1) := by decide +kernel
theorem dX6_inMerge_206 : decode cX6_inMerge 206 = .ok (.iload 4, 2) := by decide +kernel
theorem dX6_inMerge_208 : decode cX6_inMerge 208 = .ok (.invokevirtual 86, 3) := by decide +kernel
theorem dX6_inMerge_211 : decode cX6_inMerge 211 = .ok (.aload_n 0, 1) := by decide +kernel
theorem dX6_inMerge_212 : decode cX6_inMerge 212 = .ok (.getfield 7, 3) := by decide +kernel
theorem dX6_inMerge_215 : decode cX6_inMerge 215 = .ok (.iconst 0, 1) := by decide +kernel
theorem dX6_inMerge_216 : decode cX6_inMerge 216 = .ok (.iaload, 1) := by decide +kernel
theorem dX6_inMerge_217 : decode cX6_inMerge 217 = .ok (.ireturn, 1) := by decide +kernel
set_option maxRecDepth 20000 in
theorem ggX6_areEqual_X6_has : GoodIn wsX6_areEqual wsX6_has := goodIn_r _ [5] (by decide +kernel) (by decide +kernel)
set_option maxRecDepth 20000 in
theorem gX6_areEqual_X6_has : GoodIn wsX6_areEqual (va_wsS RX6 73 yX6_has wsX6_has) := goodIn_app (goodIn_of _ (by decide +kernel)) ggX6_areEqual_X6_has
theorem dX6_areEqual_0 : decode cX6_areEqual 0 = .ok (.iconst 1, 1) := by decide +kernel
theorem dX6_areEqual_1 : decode cX6_areEqual 1 = .ok (.istore 4, 2) := by decide +kernel
theorem dX6_areEqual_3 : decode cX6_areEqual 3 = .ok (.iconst 0, 1) := by decide +kernel
theorem dX6_areEqual_4 : decode cX6_areEqual 4 = .ok (.istore 5, 2) := by decide +kernel
theorem dX6_areEqual_6 : decode cX6_areEqual 6 = .ok (.iload 5, 2) := by decide +kernel
theorem dX6_areEqual_8 : decode cX6_areEqual 8 = .ok (.bipush 6, 2) := by decide +kernel
theorem dX6_areEqual_10 : decode cX6_areEqual 10 = .ok (.if_icmp .ge 58, 3) := by decide +kernel
theorem dX6_areEqual_13 : decode cX6_areEqual 13 = .ok (.iload 4, 2) := by decide +kernel
theorem dX6_areEqual_15 : decode cX6_areEqual 15 = .ok (.ifCond .eq 44, 3) := by decide +kernel
theorem dX6_areEqual_18 : decode cX6_areEqual 18 = .ok (.iload_n 1, 1) := by decide +kernel
theorem dX6_areEqual_19 : decode cX6_areEqual 19 = .ok (.iload 5, 2) := by decide +kernel
theorem dX6_areEqual_21 : decode cX6_areEqual 21 = .ok (.invokestatic 73, 3) := by decide +kernel
theorem dX6_areEqual_24 : decode cX6_areEqual 24 = .ok (.ifCond .eq 31, 3) := by decide +kernel
theorem dX6_areEqual_27 : decode cX6_areEqual 27 = .ok (.aload_n 0, 1) := by decide +kernel
theorem dX6_areEqual_28 : decode cX6_areEqual 28 = .ok (.getfield 38, 3) := by decide +kernel
theorem dX6_areEqual_31 : decode cX6_areEqual 31 = .ok (.bipush 6, 2) := by decide +kernel
theorem dX6_areEqual_33 : decode cX6_areEqual 33 = .ok (.iload 5, 2) := by decide +kernel
theorem dX6_areEqual_35 : decode cX6_areEqual 35 = .ok (.imul, 1) := by decide +kernel
theorem dX6_areEqual_36 : decode cX6_areEqual 36 = .ok (.iload_n 2, 1) := by decide +kernel
theorem dX6_areEqual_37 : decode cX6_areEqual 37 = .ok (.iadd, 1) := by decide +kernel
theorem dX6_areEqual_38 : decode cX6_areEqual 38 = .ok (.laload, 1) := by decide +kernel
theorem dX6_areEqual_39 : decode cX6_areEqual 39 = .ok (.aload_n 0, 1) := by decide +kernel
theorem dX6_areEqual_40 : decode cX6_areEqual 40 = .ok (.getfield 38, 3) := by decide +kernel
theorem dX6_areEqual_43 : decode cX6_areEqual 43 = .ok (.bipush 6, 2) := by decide +kernel
theorem dX6_areEqual_45 : decode cX6_areEqual 45 = .ok (.iload 5, 2) := by decide +kernel
theorem dX6_areEqual_47 : decode cX6_areEqual 47 = .ok (.imul, 1) := by decide +kernel
theorem dX6_areEqual_48 : decode cX6_areEqual 48 = .ok (.iload_n 3, 1) := by decide +kernel
theorem dX6_areEqual_49 : decode cX6_areEqual 49 = .ok (.iadd, 1) := by decide +kernel
theorem dX6_areEqual_50 : decode cX6_areEqual 50 = .ok (.laload, 1) := by decide +kernel
theorem dX6_areEqual_51 : decode cX6_areEqual 51 = .ok (.lcmp, 1) := by decide +kernel
theorem dX6_areEqual_52 : decode cX6_areEqual 52 = .ok (.ifCond .ne 7, 3) := by decide +kernel
theorem dX6_areEqual_55 : decode cX6_areEqual 55 = .ok (.iconst 1, 1) := by decide +kernel
theorem dX6_areEqual_56 : decode cX6_areEqual 56 = .ok (.goto 4, 3) := by decide +kernel
theorem dX6_areEqual_59 : decode cX6_areEqual 59 = .ok (.iconst 0, 1) := by decide +kernel
theorem dX6_areEqual_60 : decode cX6_areEqual 60 = .ok (.istore 4, 2) := by decide +kernel
theorem dX6_areEqual_62 : decode cX6_areEqual 62 = .ok (.iinc 5 1, 3) := by decide +kernel
theorem dX6_areEqual_65 : decode cX6_areEqual 65 = .ok (.goto (-59), 3) := by decide +kernel
theorem dX6_areEqual_68 : decode cX6_areEqual 68 = .ok (.iload 4, 2) := by decide +kernel
theorem dX6_areEqual_70 : decode cX6_areEqual 70 = .ok (.ireturn, 1) := by decide +kernel
set_option maxRecDepth 20000 in
theorem ggX6_coreOf_X6_at : GoodIn wsX6_coreOf wsX6_at := goodIn_r _ [6] (by decide +kernel) (by decide +kernel)
set_option maxRecDepth 20000 in
theorem gX6_coreOf_X6_at : GoodIn wsX6_coreOf (va_wsS RX6 44 yX6_at wsX6_at) := goodIn_app (goodIn_of _ (by decide +kernel)) ggX6_coreOf_X6_at
set_option maxRecDepth 20000 in
theorem ggX6_coreOf_X6_has : GoodIn wsX6_coreOf wsX6_has := goodIn_r _ [9] (by decide +kernel) (by decide +kernel)
set_option maxRecDepth 20000 in
theorem gX6_coreOf_X6_has : GoodIn wsX6_coreOf (va_wsS RX6 73 yX6_has wsX6_has) := goodIn_app (goodIn_of _ (by decide +kernel)) ggX6_coreOf_X6_has
set_option maxRecDepth 20000 in
theorem ggX6_coreOf_X6_areEqual : GoodIn wsX6_coreOf wsX6_areEqual := goodIn_r _ [13, 1, 7, 8, 5, 9, 17, 18, 19, 20, 21, 22, 23, 24, 25, 26, 27, 28] (by decide +kernel) (by decide +kernel)
set_option maxRecDepth 20000 in
theorem gX6_coreOf_X6_areEqual : GoodIn wsX6_coreOf (wsV RX6 146 RX6 yX6_areEqual wsX6_areEqual) := goodIn_app (goodIn_of _ (by decide +kernel)) ggX6_coreOf_X6_areEqual
set_option maxRecDepth 20000 in
theorem ggX6_coreOf_X6_ones : GoodIn wsX6_coreOf wsX6_ones := goodIn_r _ [16] (by decide +kernel) (by decide +kernel)
set_option maxRecDepth 20000 in
theorem gX6_coreOf_X6_ones : GoodIn wsX6_coreOf (va_wsS RX6 117 yX6_ones wsX6_ones) := goodIn_app (goodIn_of _ (by decide +kernel)) ggX6_coreOf_X6_ones
theorem dX6_coreOf_0 : decode cX6_coreOf 0 = .ok (.iconst 0, 1) := by decide +kernel
theorem dX6_coreOf_1 : decode cX6_coreOf 1 = .ok (.istore_n 2, 1) := by decide +kernel
theorem dX6_coreOf_2 : decode cX6_coreOf 2 = .ok (.iload_n 2, 1) := by decide +kernel
theorem dX6_coreOf_3 : decode cX6_coreOf 3 = .ok (.bipush 6, 2) := by decide +kernel
theorem dX6_coreOf_5 : decode cX6_coreOf 5 = .ok (.if_icmp .ge 47, 3) := by decide +kernel
theorem dX6_coreOf_8 : decode cX6_coreOf 8 = .ok (.iconst 0, 1) := by decide +kernel
theorem dX6_coreOf_9 : decode cX6_coreOf 9 = .ok (.istore_n 3, 1) := by decide +kernel
theorem dX6_coreOf_10 : decode cX6_coreOf 10 = .ok (.iload_n 3, 1) := by decide +kernel
theorem dX6_coreOf_11 : decode cX6_coreOf 11 = .ok (.bipush 6, 2) := by decide +kernel
theorem dX6_coreOf_13 : decode cX6_coreOf 13 = .ok (.if_icmp .ge 33, 3) := by decide +kernel
theorem dX6_coreOf_16 : decode cX6_coreOf 16 = .ok (.aload_n 0, 1) := by decide +kernel
theorem dX6_coreOf_17 : decode cX6_coreOf 17 = .ok (.getfield 38, 3) := by decide +kernel
theorem dX6_coreOf_20 : decode cX6_coreOf 20 = .ok (.bipush 6, 2) := by decide +kernel
theorem dX6_coreOf_22 : decode cX6_coreOf 22 = .ok (.iload_n 2, 1) := by decide +kernel
theorem dX6_coreOf_23 : decode cX6_coreOf 23 = .ok (.imul, 1) := by decide +kernel
theorem dX6_coreOf_24 : decode cX6_coreOf 24 = .ok (.iload_n 3, 1) := by decide +kernel
theorem dX6_coreOf_25 : decode cX6_coreOf 25 = .ok (.iadd, 1) := by decide +kernel
theorem dX6_coreOf_26 : decode cX6_coreOf 26 = .ok (.aload_n 0, 1) := by decide +kernel
theorem dX6_coreOf_27 : decode cX6_coreOf 27 = .ok (.getfield 7, 3) := by decide +kernel
theorem dX6_coreOf_30 : decode cX6_coreOf 30 = .ok (.iload_n 1, 1) := by decide +kernel
theorem dX6_coreOf_31 : decode cX6_coreOf 31 = .ok (.iload_n 2, 1) := by decide +kernel
theorem dX6_coreOf_32 : decode cX6_coreOf 32 = .ok (.iload_n 3, 1) := by decide +kernel
theorem dX6_coreOf_33 : decode cX6_coreOf 33 = .ok (.invokestatic 44, 3) := by decide +kernel
theorem dX6_coreOf_36 : decode cX6_coreOf 36 = .ok (.iadd, 1) := by decide +kernel
theorem dX6_coreOf_37 : decode cX6_coreOf 37 = .ok (.iaload, 1) := by decide +kernel
theorem dX6_coreOf_38 : decode cX6_coreOf 38 = .ok (.i2l, 1) := by decide +kernel
theorem dX6_coreOf_39 : decode cX6_coreOf 39 = .ok (.lastore, 1) := by decide +kernel
theorem dX6_coreOf_40 : decode cX6_coreOf 40 = .ok (.iinc 3 1, 3) := by decide +kernel
theorem dX6_coreOf_43 : decode cX6_coreOf 43 = .ok (.goto (-33), 3) := by decide +kernel
theorem dX6_coreOf_46 : decode cX6_coreOf 46 = .ok (.iinc 2 1, 3) := by decide +kernel
theorem dX6_coreOf_49 : decode cX6_coreOf 49 = .ok (.goto (-47), 3) := by decide +kernel
theorem dX6_coreOf_52 : decode cX6_coreOf 52 = .ok (.iconst 1, 1) := by decide +kernel
theorem dX6_coreOf_53 : decode cX6_coreOf 53 = .ok (.aload_n 0, 1) := by decide +kernel
theorem dX6_coreOf_54 : decode cX6_coreOf 54 = .ok (.getfield 7, 3) := by decide +kernel
theorem dX6_coreOf_57 : decode cX6_coreOf 57 = .ok (.iload_n 1, 1) := by decide +kernel
theorem dX6_coreOf_58 : decode cX6_coreOf 58 = .ok (.iaload, 1) := by decide +kernel
theorem dX6_coreOf_59 : decode cX6_coreOf 59 = .ok (.ishl, 1) := by decide +kernel
theorem dX6_coreOf_60 : decode cX6_coreOf 60 = .ok (.iconst 1, 1) := by decide +kernel
theorem dX6_coreOf_61 : decode cX6_coreOf 61 = .ok (.isub, 1) := by decide +kernel
theorem dX6_coreOf_62 : decode cX6_coreOf 62 = .ok (.istore_n 2, 1) := by decide +kernel
theorem dX6_coreOf_63 : decode cX6_coreOf 63 = .ok (.iconst 1, 1) := by decide +kernel
theorem dX6_coreOf_64 : decode cX6_coreOf 64 = .ok (.istore_n 3, 1) := by decide +kernel
theorem dX6_coreOf_65 : decode cX6_coreOf 65 = .ok (.iload_n 3, 1) := by decide +kernel
theorem dX6_coreOf_66 : decode cX6_coreOf 66 = .ok (.ifCond .eq 129, 3) := by decide +kernel
theorem dX6_coreOf_69 : decode cX6_coreOf 69 = .ok (.iconst 0, 1) := by decide +kernel
theorem dX6_coreOf_70 : decode cX6_coreOf 70 = .ok (.istore_n 3, 1) := by decide +kernel
theorem dX6_coreOf_71 : decode cX6_coreOf 71 = .ok (.iconst 0, 1) := by decide +kernel
theorem dX6_coreOf_72 : decode cX6_coreOf 72 = .ok (.istore 4, 2) := by decide +kernel
theorem dX6_coreOf_74 : decode cX6_coreOf 74 = .ok (.iload 4, 2) := by decide +kernel
theorem dX6_coreOf_76 : decode cX6_coreOf 76 = .ok (.bipush 6, 2) := by decide +kernel
theorem dX6_coreOf_78 : decode cX6_coreOf 78 = .ok (.if_icmp .ge 114, 3) := by decide +kernel
theorem dX6_coreOf_81 : decode cX6_coreOf 81 = .ok (.iload 4, 2) := by decide +kernel
theorem dX6_coreOf_83 : decode cX6_coreOf 83 = .ok (.iconst 1, 1) := by decide +kernel
theorem dX6_coreOf_84 : decode cX6_coreOf 84 = .ok (.iadd, 1) := by decide +kernel
theorem dX6_coreOf_85 : decode cX6_coreOf 85 = .ok (.istore 5, 2) := by decide +kernel
theorem dX6_coreOf_87 : decode cX6_coreOf 87 = .ok (.iload 5, 2) := by decide +kernel
theorem dX6_coreOf_89 : decode cX6_coreOf 89 = .ok (.bipush 6, 2) := by decide +kernel
theorem dX6_coreOf_91 : decode cX6_coreOf 91 = .ok (.if_icmp .ge 95, 3) := by decide +kernel
theorem dX6_coreOf_94 : decode cX6_coreOf 94 = .ok (.iload_n 2, 1) := by decide +kernel
theorem dX6_coreOf_95 : decode cX6_coreOf 95 = .ok (.iload 4, 2) := by decide +kernel
theorem dX6_coreOf_97 : decode cX6_coreOf 97 = .ok (.invokestatic 73, 3) := by decide +kernel
theorem dX6_coreOf_100 : decode cX6_coreOf 100 = .ok (.ifCond .eq 80, 3) := by decide +kernel
theorem dX6_coreOf_103 : decode cX6_coreOf 103 = .ok (.iload_n 2, 1) := by decide +kernel
theorem dX6_coreOf_104 : decode cX6_coreOf 104 = .ok (.iload 5, 2) := by decide +kernel
theorem dX6_coreOf_106 : decode cX6_coreOf 106 = .ok (.invokestatic 73, 3) := by decide +kernel
theorem dX6_coreOf_109 : decode cX6_coreOf 109 = .ok (.ifCond .eq 71, 3) := by decide +kernel
theorem dX6_coreOf_112 : decode cX6_coreOf 112 = .ok (.aload_n 0, 1) := by decide +kernel
theorem dX6_coreOf_113 : decode cX6_coreOf 113 = .ok (.iload_n 2, 1) := by decide +kernel
theorem dX6_coreOf_114 : decode cX6_coreOf 114 = .ok (.iload 4, 2) := by decide +kernel
theorem dX6_coreOf_116 : decode cX6_coreOf 116 = .ok (.iload 5, 2) := by decide +kernel
theorem dX6_coreOf_118 : decode cX6_coreOf 118 = .ok (.invokevirtual 146, 3) := by decide +kernel
theorem dX6_coreOf_121 : decode cX6_coreOf 121 = .ok (.ifCond .eq 59, 3) := by decide +kernel
theorem dX6_coreOf_124 : decode cX6_coreOf 124 = .ok (.iconst 0, 1) := by decide +kernel
theorem dX6_coreOf_125 : decode cX6_coreOf 125 = .ok (.istore 6, 2) := by decide +kernel
theorem dX6_coreOf_127 : decode cX6_coreOf 127 = .ok (.iload 6, 2) := by decide +kernel
theorem dX6_coreOf_129 : decode cX6_coreOf 129 = .ok (.bipush 6, 2) := by decide +kernel
theorem dX6_coreOf_131 : decode cX6_coreOf 131 = .ok (.if_icmp .ge 38, 3) := by decide +kernel
theorem dX6_coreOf_134 : decode cX6_coreOf 134 = .ok (.aload_n 0, 1) := by decide +kernel
theorem dX6_coreOf_135 : decode cX6_coreOf 135 = .ok (.getfield 38, 3) := by decide +kernel
theorem dX6_coreOf_138 : decode cX6_coreOf 138 = .ok (.bipush 6, 2) := by decide +kernel
theorem dX6_coreOf_140 : decode cX6_coreOf 140 = .ok (.iload 4, 2) := by decide +kernel
theorem dX6_coreOf_142 : decode cX6_coreOf 142 = .ok (.imul, 1) := by decide +kernel
theorem dX6_coreOf_143 : decode cX6_coreOf 143 = .ok (.iload 6, 2) := by decide +kernel
theorem dX6_coreOf_145 : decode cX6_coreOf 145 = .ok (.iadd, 1) := by decide +kernel
theorem dX6_coreOf_146 : decode cX6_coreOf 146 = .ok (.dup2, 1) := by decide +kernel
theorem dX6_coreOf_147 : decode cX6_coreOf 147 = .ok (.laload, 1) := by decide +kernel
theorem dX6_coreOf_148 : decode cX6_coreOf 148 = .ok (.aload_n 0, 1) := by decide +kernel
theorem dX6_coreOf_149 : decode cX6_coreOf 149 = .ok (.getfield 38, 3) := by decide +kernel
theorem dX6_coreOf_152 : decode cX6_coreOf 152 = .ok (.bipush 6, 2) := by decide +kernel
theorem dX6_coreOf_154 : decode cX6_coreOf 154 = .ok (.iload 5, 2) := by decide +kernel
theorem dX6_coreOf_156 : decode cX6_coreOf 156 = .ok (.imul, 1) := by decide +kernel
theorem dX6_coreOf_157 : decode cX6_coreOf 157 = .ok (.iload 6, 2) := by decide +kernel
theorem dX6_coreOf_159 : decode cX6_coreOf 159 = .ok (.iadd, 1) := by decide +kernel
theorem dX6_coreOf_160 : decode cX6_coreOf 160 = .ok (.laload, 1) := by decide +kernel
theorem dX6_coreOf_161 : decode cX6_coreOf 161 = .ok (.ladd, 1) := by decide +kernel
theorem dX6_coreOf_162 : decode cX6_coreOf 162 = .ok (.lastore, 1) := by decide +kernel
theorem dX6_coreOf_163 : decode cX6_coreOf 163 = .ok (.iinc 6 1, 3) := by decide +kernel
theorem dX6_coreOf_166 : decode cX6_coreOf 166 = .ok (.goto (-39), 3) := by decide +kernel
theorem dX6_coreOf_169 : decode cX6_coreOf 169 = .ok (.iload_n 2, 1) := by decide +kernel
theorem dX6_coreOf_170 : decode cX6_coreOf 170 = .ok (.iconst 1, 1) := by decide +kernel
theorem dX6_coreOf_171 : decode cX6_coreOf 171 = .ok (.iload 5, 2) := by decide +kernel
theorem dX6_coreOf_173 : decode cX6_coreOf 173 = .ok (.ishl, 1) := by decide +kernel
theorem dX6_coreOf_174 : decode cX6_coreOf 174 = .ok (.iconst (-1), 1) := by decide +kernel
theorem dX6_coreOf_175 : decode cX6_coreOf 175 = .ok (.ixor, 1) := by decide +kernel
theorem dX6_coreOf_176 : decode cX6_coreOf 176 = .ok (.iand, 1) := by decide +kernel
theorem dX6_coreOf_177 : decode cX6_coreOf 177 = .ok (.istore_n 2, 1) := by decide +kernel
theorem dX6_coreOf_178 : decode cX6_coreOf 178 = .ok (.iconst 1, 1) := by decide +kernel
theorem dX6_coreOf_179 : decode cX6_coreOf 179 = .ok (.istore_n 3, 1) := by decide +kernel
theorem dX6_coreOf_180 : decode cX6_coreOf 180 = .ok (.iinc 5 1, 3) := by decide +kernel
theorem dX6_coreOf_183 : decode cX6_coreOf 183 = .ok (.goto (-96), 3) := by decide +kernel
theorem dX6_coreOf_186 : decode cX6_coreOf 186 = .ok (.iinc 4 1, 3) := by decide +kernel
theorem dX6_coreOf_189 : decode cX6_coreOf 189 = .ok (.goto (-115), 3) := by decide +kernel
theorem dX6_coreOf_192 : decode cX6_coreOf 192 = .ok (.goto (-127), 3) := by decide +kernel
theorem dX6_coreOf_195 : decode cX6_coreOf 195 = .ok (.iload_n 2, 1) := by decide +kernel
theorem dX6_coreOf_196 : decode cX6_coreOf 196 = .ok (.invokestatic 117, 3) := by decide +kernel
theorem dX6_coreOf_199 : decode cX6_coreOf 199 = .ok (.ireturn, 1) := by decide +kernel
set_option maxRecDepth 20000 in
theorem ggX6_coreSize_X6_coreOf : GoodIn wsX6_coreSize wsX6_coreOf := goodIn_r _ [5, 6, 7, 8, 9, 4, 10, 11, 12, 13, 14, 15, 16, 17, 18, 19, 20, 21, 22, 23, 24, 25, 26, 27, 28, 29, 30, 31, 32] (by decide +kernel) (by decide +kernel)
set_option maxRecDepth 20000 in
theorem gX6_coreSize_X6_coreOf : GoodIn wsX6_coreSize (wsV RX6 150 RX6 yX6_coreOf wsX6_coreOf) := goodIn_app (goodIn_of _ (by decide +kernel)) ggX6_coreSize_X6_coreOf
theorem dX6_coreSize_0 : decode cX6_coreSize 0 = .ok (.aload_n 0, 1) := by decide +kernel
theorem dX6_coreSize_1 : decode cX6_coreSize 1 = .ok (.iconst 0, 1) := by decide +kernel
theorem dX6_coreSize_2 : decode cX6_coreSize 2 = .ok (.invokevirtual 150, 3) := by decide +kernel
theorem dX6_coreSize_5 : decode cX6_coreSize 5 = .ok (.ireturn, 1) := by decide +kernel
theorem dX6_save_0 : decode cX6_save 0 = .ok (.iconst 0, 1) := by decide +kernel
theorem dX6_save_1 : decode cX6_save 1 = .ok (.istore_n 1, 1) := by decide +kernel
theorem dX6_save_2 : decode cX6_save 2 = .ok (.iload_n 1, 1) := by decide +kernel
theorem dX6_save_3 : decode cX6_save 3 = .ok (.bipush 37, 2) := by decide +kernel
theorem dX6_save_5 : decode cX6_save 5 = .ok (.if_icmp .ge 24, 3) := by decide +kernel
theorem dX6_save_8 : decode cX6_save 8 = .ok (.aload_n 0, 1) := by decide +kernel
theorem dX6_save_9 : decode cX6_save 9 = .ok (.getfield 7, 3) := by decide +kernel
theorem dX6_save_12 : decode cX6_save 12 = .ok (.bipush 37, 2) := by decide +kernel
theorem dX6_save_14 : decode cX6_save 14 = .ok (.iload_n 1, 1) := by decide +kernel
theorem dX6_save_15 : decode cX6_save 15 = .ok (.iadd, 1) := by decide +kernel
theorem dX6_save_16 : decode cX6_save 16 = .ok (.aload_n 0, 1) := by decide +kernel
theorem dX6_save_17 : decode cX6_save 17 = .ok (.getfield 7, 3) := by decide +kernel
theorem dX6_save_20 : decode cX6_save 20 = .ok (.iload_n 1, 1) := by decide +kernel
theorem dX6_save_21 : decode cX6_save 21 = .ok (.iaload, 1) := by decide +kernel
theorem dX6_save_22 : decode cX6_save 22 = .ok (.iastore, 1) := by decide +kernel
theorem dX6_save_23 : decode cX6_save 23 = .ok (.iinc 1 1, 3) := by decide +kernel
theorem dX6_save_26 : decode cX6_save 26 = .ok (.goto (-24), 3) := by decide +kernel
theorem dX6_save_29 : decode cX6_save 29 = .ok (.aload_n 0, 1) := by decide +kernel
theorem dX6_save_30 : decode cX6_save 30 = .ok (.getfield 7, 3) := by decide +kernel
theorem dX6_save_33 : decode cX6_save 33 = .ok (.iconst 0, 1) := by decide +kernel
theorem dX6_save_34 : decode cX6_save 34 = .ok (.iaload, 1) := by decide +kernel
theorem dX6_save_35 : decode cX6_save 35 = .ok (.ireturn, 1) := by decide +kernel
set_option maxRecDepth 20000 in
theorem ggX6_swapSaved_X6_keeps : GoodIn wsX6_swapSaved wsX6_keeps := goodIn_r _ [6, 7, 8, 1, 9, 10, 11, 12, 13, 14, 15, 16, 17, 18, 19, 20] (by decide +kernel) (by decide +kernel)
set_option maxRecDepth 20000 in
theorem gX6_swapSaved_X6_keeps : GoodIn wsX6_swapSaved (wsV RX6 64 RX6 yX6_keeps wsX6_keeps) := goodIn_app (goodIn_of _ (by decide +kernel)) ggX6_swapSaved_X6_keeps
theorem dX6_swapSaved_0 : decode cX6_swapSaved 0 = .ok (.aload_n 0, 1) := by decide +kernel
theorem dX6_swapSaved_1 : decode cX6_swapSaved 1 = .ok (.invokevirtual 64, 3) := by decide +kernel
theorem dX6_swapSaved_4 : decode cX6_swapSaved 4 = .ok (.iconst 0, 1) := by decide +kernel
theorem dX6_swapSaved_5 : decode cX6_swapSaved 5 = .ok (.istore_n 1, 1) := by decide +kernel
theorem dX6_swapSaved_6 : decode cX6_swapSaved 6 = .ok (.iload_n 1, 1) := by decide +kernel
theorem dX6_swapSaved_7 : decode cX6_swapSaved 7 = .ok (.bipush 37, 2) := by decide +kernel
theorem dX6_swapSaved_9 : decode cX6_swapSaved 9 = .ok (.if_icmp .ge 41, 3) := by decide +kernel
theorem dX6_swapSaved_12 : decode cX6_swapSaved 12 = .ok (.aload_n 0, 1) := by decide +kernel
theorem dX6_swapSaved_13 : decode cX6_swapSaved 13 = .ok (.getfield 7, 3) := by decide +kernel
theorem dX6_swapSaved_16 : decode cX6_swapSaved 16 = .ok (.iload_n 1, 1) := by decide +kernel
theorem dX6_swapSaved_17 : decode cX6_swapSaved 17 = .ok (.iaload, 1) := by decide +kernel
theorem dX6_swapSaved_18 : decode cX6_swapSaved 18 = .ok (.istore_n 2, 1) := by decide +kernel
theorem dX6_swapSaved_19 : decode cX6_swapSaved 19 = .ok (.aload_n 0, 1) := by decide +kernel
theorem dX6_swapSaved_20 : decode cX6_swapSaved 20 = .ok (.getfield 7, 3) := by decide +kernel
theorem dX6_swapSaved_23 : decode cX6_swapSaved 23 = .ok (.iload_n 1, 1) := by decide +kernel
theorem dX6_swapSaved_24 : decode cX6_swapSaved 24 = .ok (.aload_n 0, 1) := by decide +kernel
theorem dX6_swapSaved_25 : decode cX6_swapSaved 25 = .ok (.getfield 7, 3) := by decide +kernel
theorem dX6_swapSaved_28 : decode cX6_swapSaved 28 = .ok (.bipush 37, 2) := by decide +kernel
theorem dX6_swapSaved_30 : decode cX6_swapSaved 30 = .ok (.iload_n 1, 1) := by decide +kernel
theorem dX6_swapSaved_31 : decode cX6_swapSaved 31 = .ok (.iadd, 1) := by decide +kernel
theorem dX6_swapSaved_32 : decode cX6_swapSaved 32 = .ok (.iaload, 1) := by decide +kernel
theorem dX6_swapSaved_33 : decode cX6_swapSaved 33 = .ok (.iastore, 1) := by decide +kernel
theorem dX6_swapSaved_34 : decode cX6_swapSaved 34 = .ok (.aload_n 0, 1) := by decide +kernel
theorem dX6_swapSaved_35 : decode cX6_swapSaved 35 = .ok (.getfield 7, 3) := by decide +kernel
theorem dX6_swapSaved_38 : decode cX6_swapSaved 38 = .ok (.bipush 37, 2) := by decide +kernel
theorem dX6_swapSaved_40 : decode cX6_swapSaved 40 = .ok (.iload_n 1, 1) := by decide +kernel
theorem dX6_swapSaved_41 : decode cX6_swapSaved 41 = .ok (.iadd, 1) := by decide +kernel
theorem dX6_swapSaved_42 : decode cX6_swapSaved 42 = .ok (.iload_n 2, 1) := by decide +kernel
theorem dX6_swapSaved_43 : decode cX6_swapSaved 43 = .ok (.iastore, 1) := by decide +kernel
theorem dX6_swapSaved_44 : decode cX6_swapSaved 44 = .ok (.iinc 1 1, 3) := by decide +kernel
theorem dX6_swapSaved_47 : decode cX6_swapSaved 47 = .ok (.goto (-41), 3) := by decide +kernel
theorem dX6_swapSaved_50 : decode cX6_swapSaved 50 = .ok (.aload_n 0, 1) := by decide +kernel
theorem dX6_swapSaved_51 : decode cX6_swapSaved 51 = .ok (.getfield 7, 3) := by decide +kernel
theorem dX6_swapSaved_54 : decode cX6_swapSaved 54 = .ok (.iconst 0, 1) := by decide +kernel
theorem dX6_swapSaved_55 : decode cX6_swapSaved 55 = .ok (.iaload, 1) := by decide +kernel
theorem dX6_swapSaved_56 : decode cX6_swapSaved 56 = .ok (.ireturn, 1) := by decide +kernel
set_option maxRecDepth 20000 in
theorem ggX6_factors_X6_factorOf : GoodIn wsX6_factors wsX6_factorOf := goodIn_r _ [7, 8, 9, 10, 6, 11, 1, 12, 13, 14, 15, 16, 17, 18, 19, 20, 21, 22, 23, 24, 25, 26, 27, 28, 29, 30, 31, 32, 33, 34, 35, 36, 37, 38, 39, 40, 41, 42, 43, 44, 45, 46, 47, 48] (by decide +kernel) (by decide +kernel)
set_option maxRecDepth 20000 in
theorem gX6_factors_X6_factorOf : GoodIn wsX6_factors (wsV RX6 140 RX6 yX6_factorOf wsX6_factorOf) := goodIn_app (goodIn_of _ (by decide +kernel)) ggX6_factors_X6_factorOf
theorem dX6_factors_0 : decode cX6_factors 0 = .ok (.iconst 0, 1) := by decide +kernel
theorem dX6_factors_1 : decode cX6_factors 1 = .ok (.istore_n 3, 1) := by decide +kernel
theorem dX6_factors_2 : decode cX6_factors 2 = .ok (.iconst 1, 1) := by decide +kernel
theorem dX6_factors_3 : decode cX6_factors 3 = .ok (.istore 4, 2) := by decide +kernel
theorem dX6_factors_5 : decode cX6_factors 5 = .ok (.iload 4, 2) := by decide +kernel
theorem dX6_factors_7 : decode cX6_factors 7 = .ok (.aload_n 0, 1) := by decide +kernel
theorem dX6_factors_8 : decode cX6_factors 8 = .ok (.getfield 7, 3) := by decide +kernel
theorem dX6_factors_11 : decode cX6_factors 11 = .ok (.iload_n 1, 1) := by decide +kernel
theorem dX6_factors_12 : decode cX6_factors 12 = .ok (.iaload, 1) := by decide +kernel
theorem dX6_factors_13 : decode cX6_factors 13 = .ok (.if_icmp .gt 90, 3) := by decide +kernel
theorem dX6_factors_16 : decode cX6_factors 16 = .ok (.aload_n 0, 1) := by decide +kernel
theorem dX6_factors_17 : decode cX6_factors 17 = .ok (.iload_n 1, 1) := by decide +kernel
theorem dX6_factors_18 : decode cX6_factors 18 = .ok (.iload 4, 2) := by decide +kernel
theorem dX6_factors_20 : decode cX6_factors 20 = .ok (.invokevirtual 140, 3) := by decide +kernel
theorem dX6_factors_23 : decode cX6_factors 23 = .ok (.lstore 5, 2) := by decide +kernel
theorem dX6_factors_25 : decode cX6_factors 25 = .ok (.lload 5, 2) := by decide +kernel
theorem dX6_factors_27 : decode cX6_factors 27 = .ok (.lconst 1, 1) := by decide +kernel
theorem dX6_factors_28 : decode cX6_factors 28 = .ok (.lcmp, 1) := by decide +kernel
theorem dX6_factors_29 : decode cX6_factors 29 = .ok (.ifCond .eq 68, 3) := by decide +kernel
theorem dX6_factors_32 : decode cX6_factors 32 = .ok (.iload_n 3, 1) := by decide +kernel
theorem dX6_factors_33 : decode cX6_factors 33 = .ok (.istore 7, 2) := by decide +kernel
theorem dX6_factors_35 : decode cX6_factors 35 = .ok (.iload 7, 2) := by decide +kernel
theorem dX6_factors_37 : decode cX6_factors 37 = .ok (.ifCond .le 46, 3) := by decide +kernel
theorem dX6_factors_40 : decode cX6_factors 40 = .ok (.aload_n 0, 1) := by decide +kernel
theorem dX6_factors_41 : decode cX6_factors 41 = .ok (.getfield 41, 3) := by decide +kernel
theorem dX6_factors_44 : decode cX6_factors 44 = .ok (.iload_n 2, 1) := by decide +kernel
theorem dX6_factors_45 : decode cX6_factors 45 = .ok (.iload 7, 2) := by decide +kernel
theorem dX6_factors_47 : decode cX6_factors 47 = .ok (.iadd, 1) := by decide +kernel
theorem dX6_factors_48 : decode cX6_factors 48 = .ok (.iconst 1, 1) := by decide +kernel
theorem dX6_factors_49 : decode cX6_factors 49 = .ok (.isub, 1) := by decide +kernel
theorem dX6_factors_50 : decode cX6_factors 50 = .ok (.laload, 1) := by decide +kernel
theorem dX6_factors_51 : decode cX6_factors 51 = .ok (.lload 5, 2) := by decide +kernel
theorem dX6_factors_53 : decode cX6_factors 53 = .ok (.lcmp, 1) := by decide +kernel
theorem dX6_factors_54 : decode cX6_factors 54 = .ok (.ifCond .le 29, 3) := by decide +kernel
theorem dX6_factors_57 : decode cX6_factors 57 = .ok (.aload_n 0, 1) := by decide +kernel
theorem dX6_factors_58 : decode cX6_factors 58 = .ok (.getfield 41, 3) := by decide +kernel
theorem dX6_factors_61 : decode cX6_factors 61 = .ok (.iload_n 2, 1) := by decide +kernel
theorem dX6_factors_62 : decode cX6_factors 62 = .ok (.iload 7, 2) := by decide +kernel
theorem dX6_factors_64 : decode cX6_factors 64 = .ok (.iadd, 1) := by decide +kernel
theorem dX6_factors_65 : decode cX6_factors 65 = .ok (.aload_n 0, 1) := by decide +kernel
theorem dX6_factors_66 : decode cX6_factors 66 = .ok (.getfield 41, 3) := by decide +kernel
theorem dX6_factors_69 : decode cX6_factors 69 = .ok (.iload_n 2, 1) := by decide +kernel
theorem dX6_factors_70 : decode cX6_factors 70 = .ok (.iload 7, 2) := by decide +kernel
theorem dX6_factors_72 : decode cX6_factors 72 = .ok (.iadd, 1) := by decide +kernel
theorem dX6_factors_73 : decode cX6_factors 73 = .ok (.iconst 1, 1) := by decide +kernel
theorem dX6_factors_74 : decode cX6_factors 74 = .ok (.isub, 1) := by decide +kernel
theorem dX6_factors_75 : decode cX6_factors 75 = .ok (.laload, 1) := by decide +kernel
theorem dX6_factors_76 : decode cX6_factors 76 = .ok (.lastore, 1) := by decide +kernel
theorem dX6_factors_77 : decode cX6_factors 77 = .ok (.iinc 7 (-1), 3) := by decide +kernel
theorem dX6_factors_80 : decode cX6_factors 80 = .ok (.goto (-45), 3) := by decide +kernel
theorem dX6_factors_83 : decode cX6_factors 83 = .ok (.aload_n 0, 1) := by decide +kernel
theorem dX6_factors_84 : decode cX6_factors 84 = .ok (.getfield 41, 3) := by decide +kernel
theorem dX6_factors_87 : decode cX6_factors 87 = .ok (.iload_n 2, 1) := by decide +kernel
theorem dX6_factors_88 : decode cX6_factors 88 = .ok (.iload 7, 2) := by decide +kernel
theorem dX6_factors_90 : decode cX6_factors 90 = .ok (.iadd, 1) := by decide +kernel
theorem dX6_factors_91 : decode cX6_factors 91 = .ok (.lload 5, 2) := by decide +kernel
theorem dX6_factors_93 : decode cX6_factors 93 = .ok (.lastore, 1) := by decide +kernel
theorem dX6_factors_94 : decode cX6_factors 94 = .ok (.iinc 3 1, 3) := by decide +kernel
theorem dX6_factors_97 : decode cX6_factors 97 = .ok (.iinc 4 1, 3) := by decide +kernel
theorem dX6_factors_100 : decode cX6_factors 100 = .ok (.goto (-95), 3) := by decide +kernel
theorem dX6_factors_103 : decode cX6_factors 103 = .ok (.iload_n 3, 1) := by decide +kernel
theorem dX6_factors_104 : decode cX6_factors 104 = .ok (.ireturn, 1) := by decide +kernel
set_option maxRecDepth 20000 in
theorem ggX6_differences_X6_coefficientOf : GoodIn wsX6_differences wsX6_coefficientOf := goodIn_r _ [6, 7, 8, 9, 10, 5, 11, 12, 13, 14, 15, 16, 17, 18, 19, 20, 21, 22, 23, 24, 25, 26, 27, 28, 29, 54, 55, 56, 57, 58, 59, 60, 61, 62, 63, 64, 65] (by decide +kernel) (by decide +kernel)
set_option maxRecDepth 20000 in
theorem gX6_differences_X6_coefficientOf : GoodIn wsX6_differences (wsV RX6 131 RX6 yX6_coefficientOf wsX6_coefficientOf) := goodIn_app (goodIn_of _ (by decide +kernel)) ggX6_differences_X6_coefficientOf
set_option maxRecDepth 20000 in
theorem ggX6_differences_X6_factors : GoodIn wsX6_differences wsX6_factors := goodIn_r _ [33, 7, 1, 34, 35, 36, 5, 37, 38, 39, 40, 41, 8, 9, 10, 11, 12, 13, 14, 15, 16, 17, 18, 19, 20, 21, 22, 23, 24, 25, 26, 27, 28, 29, 42, 43, 44, 54, 55, 56, 57, 58, 59, 60, 61, 62, 63, 64, 65] (by decide +kernel) (by decide +kernel)
set_option maxRecDepth 20000 in
theorem gX6_differences_X6_factors : GoodIn wsX6_differences (wsV RX6 153 RX6 yX6_factors wsX6_factors) := goodIn_app (goodIn_of _ (by decide +kernel)) ggX6_differences_X6_factors
set_option maxRecDepth 20000 in
theorem ggX6_differences_X6_coreOf : GoodIn wsX6_differences wsX6_coreOf := goodIn_r _ [48, 49, 7, 13, 14, 5, 15, 27, 28, 29, 50, 51, 52, 53, 16, 17, 18, 54, 55, 56, 57, 58, 59, 60, 61, 62, 63, 64, 65] (by decide +kernel) (by decide +kernel)
set_option maxRecDepth 20000 in
theorem gX6_differences_X6_coreOf : GoodIn wsX6_differences (wsV RX6 150 RX6 yX6_coreOf wsX6_coreOf) := goodIn_app (goodIn_of _ (by decide +kernel)) ggX6_differences_X6_coreOf
theorem dX6_differences_0 : decode cX6_differences 0 = .ok (.iconst 0, 1) := by decide +kernel
theorem dX6_differences_1 : decode cX6_differences 1 = .ok (.istore_n 1, 1) := by decide +kernel
theorem dX6_differences_2 : decode cX6_differences 2 = .ok (.iconst 0, 1) := by decide +kernel
theorem dX6_differences_3 : decode cX6_differences 3 = .ok (.istore_n 2, 1) := by decide +kernel
theorem dX6_differences_4 : decode cX6_differences 4 = .ok (.iload_n 2, 1) := by decide +kernel
theorem dX6_differences_5 : decode cX6_differences 5 = .ok (.bipush 6, 2) := by decide +kernel
theorem dX6_differences_7 : decode cX6_differences 7 = .ok (.if_icmp .gt 36, 3) := by decide +kernel
theorem dX6_differences_10 : decode cX6_differences 10 = .ok (.iload_n 1, 1) := by decide +kernel
theorem dX6_differences_11 : decode cX6_differences 11 = .ok (.ifCond .ne 20, 3) := by decide +kernel
theorem dX6_differences_14 : decode cX6_differences 14 = .ok (.aload_n 0, 1) := by decide +kernel
theorem dX6_differences_15 : decode cX6_differences 15 = .ok (.iconst 0, 1) := by decide +kernel
theorem dX6_differences_16 : decode cX6_differences 16 = .ok (.iload_n 2, 1) := by decide +kernel
theorem dX6_differences_17 : decode cX6_differences 17 = .ok (.invokevirtual 131, 3) := by decide +kernel
theorem dX6_differences_20 : decode cX6_differences 20 = .ok (.aload_n 0, 1) := by decide +kernel
theorem dX6_differences_21 : decode cX6_differences 21 = .ok (.bipush 37, 2) := by decide +kernel
theorem dX6_differences_23 : decode cX6_differences 23 = .ok (.iload_n 2, 1) := by decide +kernel
theorem dX6_differences_24 : decode cX6_differences 24 = .ok (.invokevirtual 131, 3) := by decide +kernel
theorem dX6_differences_27 : decode cX6_differences 27 = .ok (.lcmp, 1) := by decide +kernel
theorem dX6_differences_28 : decode cX6_differences 28 = .ok (.ifCond .eq 7, 3) := by decide +kernel
theorem dX6_differences_31 : decode cX6_differences 31 = .ok (.iconst 1, 1) := by decide +kernel
theorem dX6_differences_32 : decode cX6_differences 32 = .ok (.goto 4, 3) := by decide +kernel
theorem dX6_differences_35 : decode cX6_differences 35 = .ok (.iconst 0, 1) := by decide +kernel
theorem dX6_differences_36 : decode cX6_differences 36 = .ok (.istore_n 1, 1) := by decide +kernel
theorem dX6_differences_37 : decode cX6_differences 37 = .ok (.iinc 2 1, 3) := by decide +kernel
theorem dX6_differences_40 : decode cX6_differences 40 = .ok (.goto (-36), 3) := by decide +kernel
theorem dX6_differences_43 : decode cX6_differences 43 = .ok (.aload_n 0, 1) := by decide +kernel
theorem dX6_differences_44 : decode cX6_differences 44 = .ok (.iconst 0, 1) := by decide +kernel
theorem dX6_differences_45 : decode cX6_differences 45 = .ok (.iconst 0, 1) := by decide +kernel
theorem dX6_differences_46 : decode cX6_differences 46 = .ok (.invokevirtual 153, 3) := by decide +kernel
theorem dX6_differences_49 : decode cX6_differences 49 = .ok (.istore_n 2, 1) := by decide +kernel
theorem dX6_differences_50 : decode cX6_differences 50 = .ok (.iload_n 2, 1) := by decide +kernel
theorem dX6_differences_51 : decode cX6_differences 51 = .ok (.aload_n 0, 1) := by decide +kernel
theorem dX6_differences_52 : decode cX6_differences 52 = .ok (.bipush 37, 2) := by decide +kernel
theorem dX6_differences_54 : decode cX6_differences 54 = .ok (.bipush 6, 2) := by decide +kernel
theorem dX6_differences_56 : decode cX6_differences 56 = .ok (.invokevirtual 153, 3) := by decide +kernel
theorem dX6_differences_59 : decode cX6_differences 59 = .ok (.if_icmp .eq 7, 3) := by decide +kernel
theorem dX6_differences_62 : decode cX6_differences 62 = .ok (.iconst 1, 1) := by decide +kernel
theorem dX6_differences_63 : decode cX6_differences 63 = .ok (.goto 4, 3) := by decide +kernel
theorem dX6_differences_66 : decode cX6_differences 66 = .ok (.iconst 0, 1) := by decide +kernel
theorem dX6_differences_67 : decode cX6_differences 67 = .ok (.istore_n 3, 1) := by decide +kernel
theorem dX6_differences_68 : decode cX6_differences 68 = .ok (.iconst 0, 1) := by decide +kernel
theorem dX6_differences_69 : decode cX6_differences 69 = .ok (.istore 4, 2) := by decide +kernel
theorem dX6_differences_71 : decode cX6_differences 71 = .ok (.iload 4, 2) := by decide +kernel
theorem dX6_differences_73 : decode cX6_differences 73 = .ok (.iload_n 2, 1) := by decide +kernel
theorem dX6_differences_74 : decode cX6_differences 74 = .ok (.if_icmp .ge 40, 3) := by decide +kernel
theorem dX6_differences_77 : decode cX6_differences 77 = .ok (.iload_n 3, 1) := by decide +kernel
theorem dX6_differences_78 : decode cX6_differences 78 = .ok (.ifCond .ne 24, 3) := by decide +kernel
theorem dX6_differences_81 : decode cX6_differences 81 = .ok (.aload_n 0, 1) := by decide +kernel
theorem dX6_differences_82 : decode cX6_differences 82 = .ok (.getfield 41, 3) := by decide +kernel
theorem dX6_differences_85 : decode cX6_differences 85 = .ok (.iload 4, 2) := by decide +kernel
theorem dX6_differences_87 : decode cX6_differences 87 = .ok (.laload, 1) := by decide +kernel
theorem dX6_differences_88 : decode cX6_differences 88 = .ok (.aload_n 0, 1) := by decide +kernel
theorem dX6_differences_89 : decode cX6_differences 89 = .ok (.getfield 41, 3) := by decide +kernel
theorem dX6_differences_92 : decode cX6_differences 92 = .ok (.bipush 6, 2) := by decide +kernel
theorem dX6_differences_94 : decode cX6_differences 94 = .ok (.iload 4, 2) := by decide +kernel
theorem dX6_differences_96 : decode cX6_differences 96 = .ok (.iadd, 1) := by decide +kernel
theorem dX6_differences_97 : decode cX6_differences 97 = .ok (.laload, 1) := by decide +kernel
theorem dX6_differences_98 : decode cX6_differences 98 = .ok (.lcmp, 1) := by decide +kernel
theorem dX6_differences_99 : decode cX6_differences 99 = .ok (.ifCond .eq 7, 3) := by decide +kernel
theorem dX6_differences_102 : decode cX6_differences 102 = .ok (.iconst 1, 1) := by decide +kernel
theorem dX6_differences_103 : decode cX6_differences 103 = .ok (.goto 4, 3) := by decide +kernel
theorem dX6_differences_106 : decode cX6_differences 106 = .ok (.iconst 0, 1) := by decide +kernel
theorem dX6_differences_107 : decode cX6_differences 107 = .ok (.istore_n 3, 1) := by decide +kernel
theorem dX6_differences_108 : decode cX6_differences 108 = .ok (.iinc 4 1, 3) := by decide +kernel
theorem dX6_differences_111 : decode cX6_differences 111 = .ok (.goto (-40), 3) := by decide +kernel
theorem dX6_differences_114 : decode cX6_differences 114 = .ok (.iload_n 1, 1) := by decide +kernel
theorem dX6_differences_115 : decode cX6_differences 115 = .ok (.ifCond .eq 7, 3) := by decide +kernel
theorem dX6_differences_118 : decode cX6_differences 118 = .ok (.iconst 1, 1) := by decide +kernel
theorem dX6_differences_119 : decode cX6_differences 119 = .ok (.goto 4, 3) := by decide +kernel
theorem dX6_differences_122 : decode cX6_differences 122 = .ok (.iconst 0, 1) := by decide +kernel
theorem dX6_differences_123 : decode cX6_differences 123 = .ok (.iload_n 3, 1) := by decide +kernel
theorem dX6_differences_124 : decode cX6_differences 124 = .ok (.ifCond .eq 7, 3) := by decide +kernel
theorem dX6_differences_127 : decode cX6_differences 127 = .ok (.iconst 2, 1) := by decide +kernel
theorem dX6_differences_128 : decode cX6_differences 128 = .ok (.goto 4, 3) := by decide +kernel
theorem dX6_differences_131 : decode cX6_differences 131 = .ok (.iconst 0, 1) := by decide +kernel
theorem dX6_differences_132 : decode cX6_differences 132 = .ok (.iadd, 1) := by decide +kernel
theorem dX6_differences_133 : decode cX6_differences 133 = .ok (.aload_n 0, 1) := by decide +kernel
theorem dX6_differences_134 : decode cX6_differences 134 = .ok (.iconst 0, 1) := by decide +kernel
theorem dX6_differences_135 : decode cX6_differences 135 = .ok (.invokevirtual 150, 3) := by decide +kernel
theorem dX6_differences_138 : decode cX6_differences 138 = .ok (.aload_n 0, 1) := by decide +kernel
theorem dX6_differences_139 : decode cX6_differences 139 = .ok (.bipush 37, 2) := by decide +kernel
theorem dX6_differences_141 : decode cX6_differences 141 = .ok (.invokevirtual 150, 3) := by decide +kernel
theorem dX6_differences_144 : decode cX6_differences 144 = .ok (.if_icmp .eq 7, 3) := by decide +kernel
theorem dX6_differences_147 : decode cX6_differences 147 = .ok (.iconst 4, 1) := by decide +kernel
theorem dX6_differences_148 : decode cX6_differences 148 = .ok (.goto 4, 3) := by decide +kernel
theorem dX6_differences_151 : decode cX6_differences 151 = .ok (.iconst 0, 1) := by decide +kernel
theorem dX6_differences_152 : decode cX6_differences 152 = .ok (.iadd, 1) := by decide +kernel
theorem dX6_differences_153 : decode cX6_differences 153 = .ok (.ireturn, 1) := by decide +kernel
