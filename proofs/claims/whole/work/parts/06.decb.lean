theorem dX9_init_0 : decode cX9_init 0 = .ok (.aload_n 0, 1) := by decide +kernel
theorem dX9_init_1 : decode cX9_init 1 = .ok (.invokespecial 3, 3) := by decide +kernel
theorem dX9_init_4 : decode cX9_init 4 = .ok (.aload_n 0, 1) := by decide +kernel
theorem dX9_init_5 : decode cX9_init 5 = .ok (.new 9, 3) := by decide +kernel
theorem dX9_init_8 : decode cX9_init 8 = .ok (.dup, 1) := by decide +kernel
theorem dX9_init_9 : decode cX9_init 9 = .ok (.bipush 31, 2) := by decide +kernel
theorem dX9_init_11 : decode cX9_init 11 = .ok (.invokespecial 11, 3) := by decide +kernel
theorem dX9_init_14 : decode cX9_init 14 = .ok (.putfield 14, 3) := by decide +kernel
theorem dX9_init_17 : decode cX9_init 17 = .ok (.aload_n 0, 1) := by decide +kernel
theorem dX9_init_18 : decode cX9_init 18 = .ok (.new 9, 3) := by decide +kernel
theorem dX9_init_21 : decode cX9_init 21 = .ok (.dup, 1) := by decide +kernel
theorem dX9_init_22 : decode cX9_init 22 = .ok (.bipush 20, 2) := by decide +kernel
theorem dX9_init_24 : decode cX9_init 24 = .ok (.invokespecial 11, 3) := by decide +kernel
theorem dX9_init_27 : decode cX9_init 27 = .ok (.putfield 18, 3) := by decide +kernel
theorem dX9_init_30 : decode cX9_init 30 = .ok (.aload_n 0, 1) := by decide +kernel
theorem dX9_init_31 : decode cX9_init 31 = .ok (.new 21, 3) := by decide +kernel
theorem dX9_init_34 : decode cX9_init 34 = .ok (.dup, 1) := by decide +kernel
theorem dX9_init_35 : decode cX9_init 35 = .ok (.invokespecial 23, 3) := by decide +kernel
theorem dX9_init_38 : decode cX9_init 38 = .ok (.putfield 24, 3) := by decide +kernel
theorem dX9_init_41 : decode cX9_init 41 = .ok (.aload_n 0, 1) := by decide +kernel
theorem dX9_init_42 : decode cX9_init 42 = .ok (.new 28, 3) := by decide +kernel
theorem dX9_init_45 : decode cX9_init 45 = .ok (.dup, 1) := by decide +kernel
theorem dX9_init_46 : decode cX9_init 46 = .ok (.invokespecial 30, 3) := by decide +kernel
theorem dX9_init_49 : decode cX9_init 49 = .ok (.putfield 31, 3) := by decide +kernel
theorem dX9_init_52 : decode cX9_init 52 = .ok (.aload_n 0, 1) := by decide +kernel
theorem dX9_init_53 : decode cX9_init 53 = .ok (.new 35, 3) := by decide +kernel
theorem dX9_init_56 : decode cX9_init 56 = .ok (.dup, 1) := by decide +kernel
theorem dX9_init_57 : decode cX9_init 57 = .ok (.invokespecial 37, 3) := by decide +kernel
theorem dX9_init_60 : decode cX9_init 60 = .ok (.putfield 38, 3) := by decide +kernel
theorem dX9_init_63 : decode cX9_init 63 = .ok (.aload_n 0, 1) := by decide +kernel
theorem dX9_init_64 : decode cX9_init 64 = .ok (.new 42, 3) := by decide +kernel
theorem dX9_init_67 : decode cX9_init 67 = .ok (.dup, 1) := by decide +kernel
theorem dX9_init_68 : decode cX9_init 68 = .ok (.invokespecial 44, 3) := by decide +kernel
theorem dX9_init_71 : decode cX9_init 71 = .ok (.putfield 45, 3) := by decide +kernel
theorem dX9_init_74 : decode cX9_init 74 = .ok (.aload_n 0, 1) := by decide +kernel
theorem dX9_init_75 : decode cX9_init 75 = .ok (.new 49, 3) := by decide +kernel
theorem dX9_init_78 : decode cX9_init 78 = .ok (.dup, 1) := by decide +kernel
theorem dX9_init_79 : decode cX9_init 79 = .ok (.invokespecial 51, 3) := by decide +kernel
theorem dX9_init_82 : decode cX9_init 82 = .ok (.putfield 52, 3) := by decide +kernel
theorem dX9_init_85 : decode cX9_init 85 = .ok (.aload_n 0, 1) := by decide +kernel
theorem dX9_init_86 : decode cX9_init 86 = .ok (.new 56, 3) := by decide +kernel
theorem dX9_init_89 : decode cX9_init 89 = .ok (.dup, 1) := by decide +kernel
theorem dX9_init_90 : decode cX9_init 90 = .ok (.invokespecial 58, 3) := by decide +kernel
theorem dX9_init_93 : decode cX9_init 93 = .ok (.putfield 59, 3) := by decide +kernel
theorem dX9_init_96 : decode cX9_init 96 = .ok (.aload_n 0, 1) := by decide +kernel
theorem dX9_init_97 : decode cX9_init 97 = .ok (.bipush 64, 2) := by decide +kernel
theorem dX9_init_99 : decode cX9_init 99 = .ok (.newarray .int, 2) := by decide +kernel
theorem dX9_init_101 : decode cX9_init 101 = .ok (.putfield 63, 3) := by decide +kernel
theorem dX9_init_104 : decode cX9_init 104 = .ok (.aload_n 0, 1) := by decide +kernel
theorem dX9_init_105 : decode cX9_init 105 = .ok (.bipush 100, 2) := by decide +kernel
theorem dX9_init_107 : decode cX9_init 107 = .ok (.newarray .int, 2) := by decide +kernel
theorem dX9_init_109 : decode cX9_init 109 = .ok (.putfield 67, 3) := by decide +kernel
theorem dX9_init_112 : decode cX9_init 112 = .ok (.aload_n 0, 1) := by decide +kernel
theorem dX9_init_113 : decode cX9_init 113 = .ok (.iconst 4, 1) := by decide +kernel
theorem dX9_init_114 : decode cX9_init 114 = .ok (.anewarray 70, 3) := by decide +kernel
theorem dX9_init_117 : decode cX9_init 117 = .ok (.putfield 72, 3) := by decide +kernel
theorem dX9_init_120 : decode cX9_init 120 = .ok (.aload_n 0, 1) := by decide +kernel
theorem dX9_init_121 : decode cX9_init 121 = .ok (.iconst 0, 1) := by decide +kernel
theorem dX9_init_122 : decode cX9_init 122 = .ok (.putfield 76, 3) := by decide +kernel
theorem dX9_init_125 : decode cX9_init 125 = .ok (.aload_n 0, 1) := by decide +kernel
theorem dX9_init_126 : decode cX9_init 126 = .ok (.iconst 0, 1) := by decide +kernel
theorem dX9_init_127 : decode cX9_init 127 = .ok (.putfield 80, 3) := by decide +kernel
theorem dX9_init_130 : decode cX9_init 130 = .ok (.aload_n 0, 1) := by decide +kernel
theorem dX9_init_131 : decode cX9_init 131 = .ok (.iconst 0, 1) := by decide +kernel
theorem dX9_init_132 : decode cX9_init 132 = .ok (.putfield 83, 3) := by decide +kernel
theorem dX9_init_135 : decode cX9_init 135 = .ok (.iconst 0, 1) := by decide +kernel
theorem dX9_init_136 : decode cX9_init 136 = .ok (.istore_n 1, 1) := by decide +kernel
theorem dX9_init_137 : decode cX9_init 137 = .ok (.iload_n 1, 1) := by decide +kernel
theorem dX9_init_138 : decode cX9_init 138 = .ok (.iconst 4, 1) := by decide +kernel
theorem dX9_init_139 : decode cX9_init 139 = .ok (.if_icmp .ge 22, 3) := by decide +kernel
theorem dX9_init_142 : decode cX9_init 142 = .ok (.aload_n 0, 1) := by decide +kernel
theorem dX9_init_143 : decode cX9_init 143 = .ok (.getfield 72, 3) := by decide +kernel
theorem dX9_init_146 : decode cX9_init 146 = .ok (.iload_n 1, 1) := by decide +kernel
theorem dX9_init_147 : decode cX9_init 147 = .ok (.new 70, 3) := by decide +kernel
theorem dX9_init_150 : decode cX9_init 150 = .ok (.dup, 1) := by decide +kernel
theorem dX9_init_151 : decode cX9_init 151 = .ok (.invokespecial 87, 3) := by decide +kernel
theorem dX9_init_154 : decode cX9_init 154 = .ok (.aastore, 1) := by decide +kernel
theorem dX9_init_155 : decode cX9_init 155 = .ok (.iinc 1 1, 3) := by decide +kernel
theorem dX9_init_158 : decode cX9_init 158 = .ok (.goto (-21), 3) := by decide +kernel
theorem dX9_init_161 : decode cX9_init 161 = .ok (.getstatic 88, 3) := by decide +kernel
theorem dX9_init_164 : decode cX9_init 164 = .ok (.iconst 0, 1) := by decide +kernel
theorem dX9_init_165 : decode cX9_init 165 = .ok (.aload_n 0, 1) := by decide +kernel
theorem dX9_init_166 : decode cX9_init 166 = .ok (.getfield 24, 3) := by decide +kernel
theorem dX9_init_169 : decode cX9_init 169 = .ok (.getfield 91, 3) := by decide +kernel
theorem dX9_init_172 : decode cX9_init 172 = .ok (.iconst 0, 1) := by decide +kernel
theorem dX9_init_173 : decode cX9_init 173 = .ok (.getstatic 88, 3) := by decide +kernel
theorem dX9_init_176 : decode cX9_init 176 = .ok (.arraylength, 1) := by decide +kernel
theorem dX9_init_177 : decode cX9_init 177 = .ok (.invokestatic 94, 3) := by decide +kernel
theorem dX9_init_180 : decode cX9_init 180 = .ok (.return_, 1) := by decide +kernel
theorem dX9_type_0 : decode cX9_type 0 = .ok (.iload_n 1, 1) := by decide +kernel
theorem dX9_type_1 : decode cX9_type 1 = .ok (.invokestatic 100, 3) := by decide +kernel
theorem dX9_type_4 : decode cX9_type 4 = .ok (.ifCond .eq 13, 3) := by decide +kernel
theorem dX9_type_7 : decode cX9_type 7 = .ok (.iload_n 2, 1) := by decide +kernel
theorem dX9_type_8 : decode cX9_type 8 = .ok (.sipush 255, 3) := by decide +kernel
theorem dX9_type_11 : decode cX9_type 11 = .ok (.invokestatic 104, 3) := by decide +kernel
theorem dX9_type_14 : decode cX9_type 14 = .ok (.ifCond .ne 6, 3) := by decide +kernel
theorem dX9_type_17 : decode cX9_type 17 = .ok (.bipush (-2), 2) := by decide +kernel
theorem dX9_type_19 : decode cX9_type 19 = .ok (.ireturn, 1) := by decide +kernel
theorem dX9_type_20 : decode cX9_type 20 = .ok (.aload_n 0, 1) := by decide +kernel
theorem dX9_type_21 : decode cX9_type 21 = .ok (.iload_n 1, 1) := by decide +kernel
theorem dX9_type_22 : decode cX9_type 22 = .ok (.invokevirtual 108, 3) := by decide +kernel
theorem dX9_type_25 : decode cX9_type 25 = .ok (.astore_n 3, 1) := by decide +kernel
theorem dX9_type_26 : decode cX9_type 26 = .ok (.aload_n 3, 1) := by decide +kernel
theorem dX9_type_27 : decode cX9_type 27 = .ok (.invokevirtual 112, 3) := by decide +kernel
theorem dX9_type_30 : decode cX9_type 30 = .ok (.ifCond .eq 6, 3) := by decide +kernel
theorem dX9_type_33 : decode cX9_type 33 = .ok (.bipush (-4), 2) := by decide +kernel
theorem dX9_type_35 : decode cX9_type 35 = .ok (.ireturn, 1) := by decide +kernel
theorem dX9_type_36 : decode cX9_type 36 = .ok (.aload_n 3, 1) := by decide +kernel
theorem dX9_type_37 : decode cX9_type 37 = .ok (.iload_n 2, 1) := by decide +kernel
theorem dX9_type_38 : decode cX9_type 38 = .ok (.invokevirtual 116, 3) := by decide +kernel
theorem dX9_type_41 : decode cX9_type 41 = .ok (.aload_n 0, 1) := by decide +kernel
theorem dX9_type_42 : decode cX9_type 42 = .ok (.iload_n 1, 1) := by decide +kernel
theorem dX9_type_43 : decode cX9_type 43 = .ok (.invokevirtual 119, 3) := by decide +kernel
theorem dX9_type_46 : decode cX9_type 46 = .ok (.aload_n 3, 1) := by decide +kernel
theorem dX9_type_47 : decode cX9_type 47 = .ok (.getfield 122, 3) := by decide +kernel
theorem dX9_type_50 : decode cX9_type 50 = .ok (.ireturn, 1) := by decide +kernel
theorem dX9_wipe_0 : decode cX9_wipe 0 = .ok (.iload_n 1, 1) := by decide +kernel
theorem dX9_wipe_1 : decode cX9_wipe 1 = .ok (.invokestatic 100, 3) := by decide +kernel
theorem dX9_wipe_4 : decode cX9_wipe 4 = .ok (.ifCond .ne 6, 3) := by decide +kernel
theorem dX9_wipe_7 : decode cX9_wipe 7 = .ok (.bipush (-2), 2) := by decide +kernel
theorem dX9_wipe_9 : decode cX9_wipe 9 = .ok (.ireturn, 1) := by decide +kernel
theorem dX9_wipe_10 : decode cX9_wipe 10 = .ok (.aload_n 0, 1) := by decide +kernel
theorem dX9_wipe_11 : decode cX9_wipe 11 = .ok (.iload_n 1, 1) := by decide +kernel
theorem dX9_wipe_12 : decode cX9_wipe 12 = .ok (.invokevirtual 108, 3) := by decide +kernel
theorem dX9_wipe_15 : decode cX9_wipe 15 = .ok (.astore_n 2, 1) := by decide +kernel
theorem dX9_wipe_16 : decode cX9_wipe 16 = .ok (.aload_n 2, 1) := by decide +kernel
theorem dX9_wipe_17 : decode cX9_wipe 17 = .ok (.getfield 122, 3) := by decide +kernel
theorem dX9_wipe_20 : decode cX9_wipe 20 = .ok (.istore_n 3, 1) := by decide +kernel
theorem dX9_wipe_21 : decode cX9_wipe 21 = .ok (.aload_n 2, 1) := by decide +kernel
theorem dX9_wipe_22 : decode cX9_wipe 22 = .ok (.iconst 0, 1) := by decide +kernel
theorem dX9_wipe_23 : decode cX9_wipe 23 = .ok (.putfield 122, 3) := by decide +kernel
theorem dX9_wipe_26 : decode cX9_wipe 26 = .ok (.aload_n 0, 1) := by decide +kernel
theorem dX9_wipe_27 : decode cX9_wipe 27 = .ok (.iload_n 1, 1) := by decide +kernel
theorem dX9_wipe_28 : decode cX9_wipe 28 = .ok (.invokevirtual 119, 3) := by decide +kernel
theorem dX9_wipe_31 : decode cX9_wipe 31 = .ok (.iload_n 3, 1) := by decide +kernel
theorem dX9_wipe_32 : decode cX9_wipe 32 = .ok (.ireturn, 1) := by decide +kernel
theorem dX9_undo_0 : decode cX9_undo 0 = .ok (.iload_n 1, 1) := by decide +kernel
theorem dX9_undo_1 : decode cX9_undo 1 = .ok (.invokestatic 100, 3) := by decide +kernel
theorem dX9_undo_4 : decode cX9_undo 4 = .ok (.ifCond .ne 6, 3) := by decide +kernel
theorem dX9_undo_7 : decode cX9_undo 7 = .ok (.bipush (-2), 2) := by decide +kernel
theorem dX9_undo_9 : decode cX9_undo 9 = .ok (.ireturn, 1) := by decide +kernel
theorem dX9_undo_10 : decode cX9_undo 10 = .ok (.aload_n 0, 1) := by decide +kernel
theorem dX9_undo_11 : decode cX9_undo 11 = .ok (.iload_n 1, 1) := by decide +kernel
theorem dX9_undo_12 : decode cX9_undo 12 = .ok (.invokevirtual 108, 3) := by decide +kernel
theorem dX9_undo_15 : decode cX9_undo 15 = .ok (.astore_n 2, 1) := by decide +kernel
theorem dX9_undo_16 : decode cX9_undo 16 = .ok (.aload_n 2, 1) := by decide +kernel
theorem dX9_undo_17 : decode cX9_undo 17 = .ok (.getfield 122, 3) := by decide +kernel
theorem dX9_undo_20 : decode cX9_undo 20 = .ok (.ifCond .gt 6, 3) := by decide +kernel
theorem dX9_undo_23 : decode cX9_undo 23 = .ok (.bipush (-3), 2) := by decide +kernel
theorem dX9_undo_25 : decode cX9_undo 25 = .ok (.ireturn, 1) := by decide +kernel
theorem dX9_undo_26 : decode cX9_undo 26 = .ok (.aload_n 2, 1) := by decide +kernel
theorem dX9_undo_27 : decode cX9_undo 27 = .ok (.dup, 1) := by decide +kernel
theorem dX9_undo_28 : decode cX9_undo 28 = .ok (.getfield 122, 3) := by decide +kernel
theorem dX9_undo_31 : decode cX9_undo 31 = .ok (.iconst 1, 1) := by decide +kernel
theorem dX9_undo_32 : decode cX9_undo 32 = .ok (.isub, 1) := by decide +kernel
theorem dX9_undo_33 : decode cX9_undo 33 = .ok (.putfield 122, 3) := by decide +kernel
theorem dX9_undo_36 : decode cX9_undo 36 = .ok (.aload_n 0, 1) := by decide +kernel
theorem dX9_undo_37 : decode cX9_undo 37 = .ok (.iload_n 1, 1) := by decide +kernel
theorem dX9_undo_38 : decode cX9_undo 38 = .ok (.invokevirtual 119, 3) := by decide +kernel
theorem dX9_undo_41 : decode cX9_undo 41 = .ok (.aload_n 2, 1) := by decide +kernel
theorem dX9_undo_42 : decode cX9_undo 42 = .ok (.getfield 122, 3) := by decide +kernel
theorem dX9_undo_45 : decode cX9_undo 45 = .ok (.ireturn, 1) := by decide +kernel
theorem dX9_fault_0 : decode cX9_fault 0 = .ok (.iload_n 1, 1) := by decide +kernel
theorem dX9_fault_1 : decode cX9_fault 1 = .ok (.invokestatic 100, 3) := by decide +kernel
theorem dX9_fault_4 : decode cX9_fault 4 = .ok (.ifCond .ne 6, 3) := by decide +kernel
theorem dX9_fault_7 : decode cX9_fault 7 = .ok (.bipush (-2), 2) := by decide +kernel
theorem dX9_fault_9 : decode cX9_fault 9 = .ok (.ireturn, 1) := by decide +kernel
theorem dX9_fault_10 : decode cX9_fault 10 = .ok (.iload_n 1, 1) := by decide +kernel
theorem dX9_fault_11 : decode cX9_fault 11 = .ok (.ifCond .ne 13, 3) := by decide +kernel
theorem dX9_fault_14 : decode cX9_fault 14 = .ok (.aload_n 0, 1) := by decide +kernel
theorem dX9_fault_15 : decode cX9_fault 15 = .ok (.getfield 14, 3) := by decide +kernel
theorem dX9_fault_18 : decode cX9_fault 18 = .ok (.invokevirtual 125, 3) := by decide +kernel
theorem dX9_fault_21 : decode cX9_fault 21 = .ok (.goto 10, 3) := by decide +kernel
theorem dX9_fault_24 : decode cX9_fault 24 = .ok (.aload_n 0, 1) := by decide +kernel
theorem dX9_fault_25 : decode cX9_fault 25 = .ok (.getfield 18, 3) := by decide +kernel
theorem dX9_fault_28 : decode cX9_fault 28 = .ok (.invokevirtual 129, 3) := by decide +kernel
theorem dX9_fault_31 : decode cX9_fault 31 = .ok (.ireturn, 1) := by decide +kernel
theorem dX9_heir_0 : decode cX9_heir 0 = .ok (.aload_n 0, 1) := by decide +kernel
theorem dX9_heir_1 : decode cX9_heir 1 = .ok (.iload_n 1, 1) := by decide +kernel
theorem dX9_heir_2 : decode cX9_heir 2 = .ok (.invokevirtual 132, 3) := by decide +kernel
theorem dX9_heir_5 : decode cX9_heir 5 = .ok (.ifCond .ne 6, 3) := by decide +kernel
theorem dX9_heir_8 : decode cX9_heir 8 = .ok (.bipush (-2), 2) := by decide +kernel
theorem dX9_heir_10 : decode cX9_heir 10 = .ok (.ireturn, 1) := by decide +kernel
theorem dX9_heir_11 : decode cX9_heir 11 = .ok (.iload_n 2, 1) := by decide +kernel
theorem dX9_heir_12 : decode cX9_heir 12 = .ok (.tableswitch 58 0 2 #[28, 38, 48], 28) := by decide +kernel
theorem dX9_heir_40 : decode cX9_heir 40 = .ok (.aload_n 0, 1) := by decide +kernel
theorem dX9_heir_41 : decode cX9_heir 41 = .ok (.getfield 24, 3) := by decide +kernel
theorem dX9_heir_44 : decode cX9_heir 44 = .ok (.getfield 135, 3) := by decide +kernel
theorem dX9_heir_47 : decode cX9_heir 47 = .ok (.iload_n 1, 1) := by decide +kernel
theorem dX9_heir_48 : decode cX9_heir 48 = .ok (.iaload, 1) := by decide +kernel
theorem dX9_heir_49 : decode cX9_heir 49 = .ok (.ireturn, 1) := by decide +kernel
theorem dX9_heir_50 : decode cX9_heir 50 = .ok (.aload_n 0, 1) := by decide +kernel
theorem dX9_heir_51 : decode cX9_heir 51 = .ok (.getfield 24, 3) := by decide +kernel
theorem dX9_heir_54 : decode cX9_heir 54 = .ok (.getfield 138, 3) := by decide +kernel
theorem dX9_heir_57 : decode cX9_heir 57 = .ok (.iload_n 1, 1) := by decide +kernel
theorem dX9_heir_58 : decode cX9_heir 58 = .ok (.iaload, 1) := by decide +kernel
theorem dX9_heir_59 : decode cX9_heir 59 = .ok (.ireturn, 1) := by decide +kernel
theorem dX9_heir_60 : decode cX9_heir 60 = .ok (.aload_n 0, 1) := by decide +kernel
theorem dX9_heir_61 : decode cX9_heir 61 = .ok (.getfield 24, 3) := by decide +kernel
theorem dX9_heir_64 : decode cX9_heir 64 = .ok (.getfield 141, 3) := by decide +kernel
theorem dX9_heir_67 : decode cX9_heir 67 = .ok (.iload_n 1, 1) := by decide +kernel
theorem dX9_heir_68 : decode cX9_heir 68 = .ok (.iaload, 1) := by decide +kernel
theorem dX9_heir_69 : decode cX9_heir 69 = .ok (.ireturn, 1) := by decide +kernel
theorem dX9_heir_70 : decode cX9_heir 70 = .ok (.bipush (-2), 2) := by decide +kernel
theorem dX9_heir_72 : decode cX9_heir 72 = .ok (.ireturn, 1) := by decide +kernel
theorem dX9_round_0 : decode cX9_round 0 = .ok (.iload_n 1, 1) := by decide +kernel
theorem dX9_round_1 : decode cX9_round 1 = .ok (.bipush 19, 2) := by decide +kernel
theorem dX9_round_3 : decode cX9_round 3 = .ok (.invokestatic 104, 3) := by decide +kernel
theorem dX9_round_6 : decode cX9_round 6 = .ok (.ifCond .ne 6, 3) := by decide +kernel
theorem dX9_round_9 : decode cX9_round 9 = .ok (.bipush (-2), 2) := by decide +kernel
theorem dX9_round_11 : decode cX9_round 11 = .ok (.ireturn, 1) := by decide +kernel
theorem dX9_round_12 : decode cX9_round 12 = .ok (.iload_n 1, 1) := by decide +kernel
theorem dX9_round_13 : decode cX9_round 13 = .ok (.aload_n 0, 1) := by decide +kernel
theorem dX9_round_14 : decode cX9_round 14 = .ok (.getfield 24, 3) := by decide +kernel
theorem dX9_round_17 : decode cX9_round 17 = .ok (.getfield 144, 3) := by decide +kernel
theorem dX9_round_20 : decode cX9_round 20 = .ok (.if_icmp .ge 15, 3) := by decide +kernel
theorem dX9_round_23 : decode cX9_round 23 = .ok (.aload_n 0, 1) := by decide +kernel
theorem dX9_round_24 : decode cX9_round 24 = .ok (.getfield 24, 3) := by decide +kernel
theorem dX9_round_27 : decode cX9_round 27 = .ok (.getfield 147, 3) := by decide +kernel
theorem dX9_round_30 : decode cX9_round 30 = .ok (.iload_n 1, 1) := by decide +kernel
theorem dX9_round_31 : decode cX9_round 31 = .ok (.iaload, 1) := by decide +kernel
theorem dX9_round_32 : decode cX9_round 32 = .ok (.goto 4, 3) := by decide +kernel
theorem dX9_round_35 : decode cX9_round 35 = .ok (.iconst (-1), 1) := by decide +kernel
theorem dX9_round_36 : decode cX9_round 36 = .ok (.ireturn, 1) := by decide +kernel
theorem dX9_set_0 : decode cX9_set 0 = .ok (.iload_n 1, 1) := by decide +kernel
theorem dX9_set_1 : decode cX9_set 1 = .ok (.getstatic 150, 3) := by decide +kernel
theorem dX9_set_4 : decode cX9_set 4 = .ok (.arraylength, 1) := by decide +kernel
theorem dX9_set_5 : decode cX9_set 5 = .ok (.iconst 1, 1) := by decide +kernel
theorem dX9_set_6 : decode cX9_set 6 = .ok (.isub, 1) := by decide +kernel
theorem dX9_set_7 : decode cX9_set 7 = .ok (.invokestatic 104, 3) := by decide +kernel
theorem dX9_set_10 : decode cX9_set 10 = .ok (.ifCond .eq 15, 3) := by decide +kernel
theorem dX9_set_13 : decode cX9_set 13 = .ok (.iload_n 2, 1) := by decide +kernel
theorem dX9_set_14 : decode cX9_set 14 = .ok (.getstatic 150, 3) := by decide +kernel
theorem dX9_set_17 : decode cX9_set 17 = .ok (.iload_n 1, 1) := by decide +kernel
theorem dX9_set_18 : decode cX9_set 18 = .ok (.iaload, 1) := by decide +kernel
theorem dX9_set_19 : decode cX9_set 19 = .ok (.invokestatic 104, 3) := by decide +kernel
theorem dX9_set_22 : decode cX9_set 22 = .ok (.ifCond .ne 6, 3) := by decide +kernel
theorem dX9_set_25 : decode cX9_set 25 = .ok (.bipush (-2), 2) := by decide +kernel
theorem dX9_set_27 : decode cX9_set 27 = .ok (.ireturn, 1) := by decide +kernel
theorem dX9_set_28 : decode cX9_set 28 = .ok (.aload_n 0, 1) := by decide +kernel
theorem dX9_set_29 : decode cX9_set 29 = .ok (.getfield 24, 3) := by decide +kernel
theorem dX9_set_32 : decode cX9_set 32 = .ok (.getfield 91, 3) := by decide +kernel
theorem dX9_set_35 : decode cX9_set 35 = .ok (.iload_n 1, 1) := by decide +kernel
theorem dX9_set_36 : decode cX9_set 36 = .ok (.iaload, 1) := by decide +kernel
theorem dX9_set_37 : decode cX9_set 37 = .ok (.istore_n 3, 1) := by decide +kernel
theorem dX9_set_38 : decode cX9_set 38 = .ok (.aload_n 0, 1) := by decide +kernel
theorem dX9_set_39 : decode cX9_set 39 = .ok (.getfield 24, 3) := by decide +kernel
theorem dX9_set_42 : decode cX9_set 42 = .ok (.getfield 91, 3) := by decide +kernel
theorem dX9_set_45 : decode cX9_set 45 = .ok (.iload_n 1, 1) := by decide +kernel
theorem dX9_set_46 : decode cX9_set 46 = .ok (.iload_n 2, 1) := by decide +kernel
theorem dX9_set_47 : decode cX9_set 47 = .ok (.iastore, 1) := by decide +kernel
theorem dX9_set_48 : decode cX9_set 48 = .ok (.aload_n 0, 1) := by decide +kernel
theorem dX9_set_49 : decode cX9_set 49 = .ok (.invokevirtual 153, 3) := by decide +kernel
theorem dX9_set_52 : decode cX9_set 52 = .ok (.iload_n 3, 1) := by decide +kernel
theorem dX9_set_53 : decode cX9_set 53 = .ok (.ireturn, 1) := by decide +kernel
theorem dX9_fly_0 : decode cX9_fly 0 = .ok (.iload_n 1, 1) := by decide +kernel
theorem dX9_fly_1 : decode cX9_fly 1 = .ok (.bipush 19, 2) := by decide +kernel
theorem dX9_fly_3 : decode cX9_fly 3 = .ok (.invokestatic 104, 3) := by decide +kernel
theorem dX9_fly_6 : decode cX9_fly 6 = .ok (.ifCond .ne 6, 3) := by decide +kernel
theorem dX9_fly_9 : decode cX9_fly 9 = .ok (.bipush (-2), 2) := by decide +kernel
theorem dX9_fly_11 : decode cX9_fly 11 = .ok (.ireturn, 1) := by decide +kernel
theorem dX9_fly_12 : decode cX9_fly 12 = .ok (.aload_n 0, 1) := by decide +kernel
theorem dX9_fly_13 : decode cX9_fly 13 = .ok (.getfield 45, 3) := by decide +kernel
theorem dX9_fly_16 : decode cX9_fly 16 = .ok (.getfield 156, 3) := by decide +kernel
theorem dX9_fly_19 : decode cX9_fly 19 = .ok (.bipush 6, 2) := by decide +kernel
theorem dX9_fly_21 : decode cX9_fly 21 = .ok (.if_icmp .lt 6, 3) := by decide +kernel
theorem dX9_fly_24 : decode cX9_fly 24 = .ok (.bipush (-4), 2) := by decide +kernel
theorem dX9_fly_26 : decode cX9_fly 26 = .ok (.ireturn, 1) := by decide +kernel
theorem dX9_fly_27 : decode cX9_fly 27 = .ok (.aload_n 0, 1) := by decide +kernel
theorem dX9_fly_28 : decode cX9_fly 28 = .ok (.getfield 45, 3) := by decide +kernel
theorem dX9_fly_31 : decode cX9_fly 31 = .ok (.iload_n 1, 1) := by decide +kernel
theorem dX9_fly_32 : decode cX9_fly 32 = .ok (.invokevirtual 157, 3) := by decide +kernel
theorem dX9_fly_35 : decode cX9_fly 35 = .ok (.aload_n 0, 1) := by decide +kernel
theorem dX9_fly_36 : decode cX9_fly 36 = .ok (.invokevirtual 158, 3) := by decide +kernel
theorem dX9_fly_39 : decode cX9_fly 39 = .ok (.aload_n 0, 1) := by decide +kernel
theorem dX9_fly_40 : decode cX9_fly 40 = .ok (.getfield 45, 3) := by decide +kernel
theorem dX9_fly_43 : decode cX9_fly 43 = .ok (.getfield 156, 3) := by decide +kernel
theorem dX9_fly_46 : decode cX9_fly 46 = .ok (.ireturn, 1) := by decide +kernel
theorem dX9_back_0 : decode cX9_back 0 = .ok (.aload_n 0, 1) := by decide +kernel
theorem dX9_back_1 : decode cX9_back 1 = .ok (.getfield 45, 3) := by decide +kernel
theorem dX9_back_4 : decode cX9_back 4 = .ok (.getfield 156, 3) := by decide +kernel
theorem dX9_back_7 : decode cX9_back 7 = .ok (.ifCond .gt 6, 3) := by decide +kernel
theorem dX9_back_10 : decode cX9_back 10 = .ok (.bipush (-3), 2) := by decide +kernel
theorem dX9_back_12 : decode cX9_back 12 = .ok (.ireturn, 1) := by decide +kernel
theorem dX9_back_13 : decode cX9_back 13 = .ok (.aload_n 0, 1) := by decide +kernel
theorem dX9_back_14 : decode cX9_back 14 = .ok (.getfield 45, 3) := by decide +kernel
theorem dX9_back_17 : decode cX9_back 17 = .ok (.dup, 1) := by decide +kernel
theorem dX9_back_18 : decode cX9_back 18 = .ok (.getfield 156, 3) := by decide +kernel
theorem dX9_back_21 : decode cX9_back 21 = .ok (.iconst 1, 1) := by decide +kernel
theorem dX9_back_22 : decode cX9_back 22 = .ok (.isub, 1) := by decide +kernel
theorem dX9_back_23 : decode cX9_back 23 = .ok (.putfield 156, 3) := by decide +kernel
theorem dX9_back_26 : decode cX9_back 26 = .ok (.aload_n 0, 1) := by decide +kernel
theorem dX9_back_27 : decode cX9_back 27 = .ok (.invokevirtual 158, 3) := by decide +kernel
theorem dX9_back_30 : decode cX9_back 30 = .ok (.aload_n 0, 1) := by decide +kernel
theorem dX9_back_31 : decode cX9_back 31 = .ok (.getfield 45, 3) := by decide +kernel
theorem dX9_back_34 : decode cX9_back 34 = .ok (.getfield 156, 3) := by decide +kernel
theorem dX9_back_37 : decode cX9_back 37 = .ok (.ireturn, 1) := by decide +kernel
theorem dX9_read_0 : decode cX9_read 0 = .ok (.iload_n 1, 1) := by decide +kernel
theorem dX9_read_1 : decode cX9_read 1 = .ok (.invokestatic 161, 3) := by decide +kernel
theorem dX9_read_4 : decode cX9_read 4 = .ok (.ifCond .ne 6, 3) := by decide +kernel
theorem dX9_read_7 : decode cX9_read 7 = .ok (.bipush (-2), 2) := by decide +kernel
theorem dX9_read_9 : decode cX9_read 9 = .ok (.ireturn, 1) := by decide +kernel
theorem dX9_read_10 : decode cX9_read 10 = .ok (.aload_n 0, 1) := by decide +kernel
theorem dX9_read_11 : decode cX9_read 11 = .ok (.getfield 72, 3) := by decide +kernel
theorem dX9_read_14 : decode cX9_read 14 = .ok (.iload_n 1, 1) := by decide +kernel
theorem dX9_read_15 : decode cX9_read 15 = .ok (.aaload, 1) := by decide +kernel
theorem dX9_read_16 : decode cX9_read 16 = .ok (.astore_n 2, 1) := by decide +kernel
theorem dX9_read_17 : decode cX9_read 17 = .ok (.aload_n 2, 1) := by decide +kernel
theorem dX9_read_18 : decode cX9_read 18 = .ok (.getfield 164, 3) := by decide +kernel
theorem dX9_read_21 : decode cX9_read 21 = .ok (.ifCond .eq 9, 3) := by decide +kernel
theorem dX9_read_24 : decode cX9_read 24 = .ok (.aload_n 0, 1) := by decide +kernel
theorem dX9_read_25 : decode cX9_read 25 = .ok (.iconst 1, 1) := by decide +kernel
theorem dX9_read_26 : decode cX9_read 26 = .ok (.invokevirtual 167, 3) := by decide +kernel
theorem dX9_read_29 : decode cX9_read 29 = .ok (.ireturn, 1) := by decide +kernel
theorem dX9_read_30 : decode cX9_read 30 = .ok (.aload_n 0, 1) := by decide +kernel
theorem dX9_read_31 : decode cX9_read 31 = .ok (.getfield 45, 3) := by decide +kernel
theorem dX9_read_34 : decode cX9_read 34 = .ok (.getfield 156, 3) := by decide +kernel
theorem dX9_read_37 : decode cX9_read 37 = .ok (.istore_n 3, 1) := by decide +kernel
theorem dX9_read_38 : decode cX9_read 38 = .ok (.iconst 0, 1) := by decide +kernel
theorem dX9_read_39 : decode cX9_read 39 = .ok (.istore 4, 2) := by decide +kernel
theorem dX9_read_41 : decode cX9_read 41 = .ok (.iload 4, 2) := by decide +kernel
theorem dX9_read_43 : decode cX9_read 43 = .ok (.aload_n 2, 1) := by decide +kernel
theorem dX9_read_44 : decode cX9_read 44 = .ok (.getfield 171, 3) := by decide +kernel
theorem dX9_read_47 : decode cX9_read 47 = .ok (.if_icmp .ge 37, 3) := by decide +kernel
theorem dX9_read_50 : decode cX9_read 50 = .ok (.aload_n 0, 1) := by decide +kernel
theorem dX9_read_51 : decode cX9_read 51 = .ok (.aload_n 2, 1) := by decide +kernel
theorem dX9_read_52 : decode cX9_read 52 = .ok (.getfield 172, 3) := by decide +kernel
theorem dX9_read_55 : decode cX9_read 55 = .ok (.iload 4, 2) := by decide +kernel
theorem dX9_read_57 : decode cX9_read 57 = .ok (.iaload, 1) := by decide +kernel
theorem dX9_read_58 : decode cX9_read 58 = .ok (.invokevirtual 175, 3) := by decide +kernel
theorem dX9_read_61 : decode cX9_read 61 = .ok (.ifCond .eq 23, 3) := by decide +kernel
theorem dX9_read_64 : decode cX9_read 64 = .ok (.aload_n 0, 1) := by decide +kernel
theorem dX9_read_65 : decode cX9_read 65 = .ok (.getfield 45, 3) := by decide +kernel
theorem dX9_read_68 : decode cX9_read 68 = .ok (.aload_n 2, 1) := by decide +kernel
theorem dX9_read_69 : decode cX9_read 69 = .ok (.getfield 172, 3) := by decide +kernel
theorem dX9_read_72 : decode cX9_read 72 = .ok (.iload 4, 2) := by decide +kernel
theorem dX9_read_74 : decode cX9_read 74 = .ok (.iaload, 1) := by decide +kernel
theorem dX9_read_75 : decode cX9_read 75 = .ok (.invokevirtual 157, 3) := by decide +kernel
theorem dX9_read_78 : decode cX9_read 78 = .ok (.iinc 4 1, 3) := by decide +kernel
theorem dX9_read_81 : decode cX9_read 81 = .ok (.goto (-40), 3) := by decide +kernel
theorem dX9_read_84 : decode cX9_read 84 = .ok (.aload_n 0, 1) := by decide +kernel
theorem dX9_read_85 : decode cX9_read 85 = .ok (.invokevirtual 158, 3) := by decide +kernel
theorem dX9_read_88 : decode cX9_read 88 = .ok (.aload_n 0, 1) := by decide +kernel
theorem dX9_read_89 : decode cX9_read 89 = .ok (.getfield 45, 3) := by decide +kernel
theorem dX9_read_92 : decode cX9_read 92 = .ok (.getfield 156, 3) := by decide +kernel
theorem dX9_read_95 : decode cX9_read 95 = .ok (.iload_n 3, 1) := by decide +kernel
theorem dX9_read_96 : decode cX9_read 96 = .ok (.isub, 1) := by decide +kernel
theorem dX9_read_97 : decode cX9_read 97 = .ok (.ireturn, 1) := by decide +kernel
theorem dX9_does_0 : decode cX9_does 0 = .ok (.iload_n 1, 1) := by decide +kernel
theorem dX9_does_1 : decode cX9_does 1 = .ok (.ifCond .lt 14, 3) := by decide +kernel
theorem dX9_does_4 : decode cX9_does 4 = .ok (.iload_n 1, 1) := by decide +kernel
theorem dX9_does_5 : decode cX9_does 5 = .ok (.aload_n 0, 1) := by decide +kernel
theorem dX9_does_6 : decode cX9_does 6 = .ok (.getfield 24, 3) := by decide +kernel
theorem dX9_does_9 : decode cX9_does 9 = .ok (.getfield 144, 3) := by decide +kernel
theorem dX9_does_12 : decode cX9_does 12 = .ok (.if_icmp .lt 6, 3) := by decide +kernel
theorem dX9_does_15 : decode cX9_does 15 = .ok (.bipush (-2), 2) := by decide +kernel
theorem dX9_does_17 : decode cX9_does 17 = .ok (.ireturn, 1) := by decide +kernel
theorem dX9_does_18 : decode cX9_does 18 = .ok (.iload_n 2, 1) := by decide +kernel
theorem dX9_does_19 : decode cX9_does 19 = .ok (.tableswitch 69 0 3 #[29, 39, 49, 59], 29) := by decide +kernel
theorem dX9_does_48 : decode cX9_does 48 = .ok (.aload_n 0, 1) := by decide +kernel
theorem dX9_does_49 : decode cX9_does 49 = .ok (.getfield 31, 3) := by decide +kernel
theorem dX9_does_52 : decode cX9_does 52 = .ok (.getfield 178, 3) := by decide +kernel
theorem dX9_does_55 : decode cX9_does 55 = .ok (.iload_n 1, 1) := by decide +kernel
theorem dX9_does_56 : decode cX9_does 56 = .ok (.iaload, 1) := by decide +kernel
theorem dX9_does_57 : decode cX9_does 57 = .ok (.ireturn, 1) := by decide +kernel
theorem dX9_does_58 : decode cX9_does 58 = .ok (.aload_n 0, 1) := by decide +kernel
theorem dX9_does_59 : decode cX9_does 59 = .ok (.getfield 31, 3) := by decide +kernel
theorem dX9_does_62 : decode cX9_does 62 = .ok (.getfield 181, 3) := by decide +kernel
theorem dX9_does_65 : decode cX9_does 65 = .ok (.iload_n 1, 1) := by decide +kernel
theorem dX9_does_66 : decode cX9_does 66 = .ok (.iaload, 1) := by decide +kernel
theorem dX9_does_67 : decode cX9_does 67 = .ok (.ireturn, 1) := by decide +kernel
theorem dX9_does_68 : decode cX9_does 68 = .ok (.aload_n 0, 1) := by decide +kernel
theorem dX9_does_69 : decode cX9_does 69 = .ok (.getfield 31, 3) := by decide +kernel
theorem dX9_does_72 : decode cX9_does 72 = .ok (.getfield 184, 3) := by decide +kernel
theorem dX9_does_75 : decode cX9_does 75 = .ok (.iload_n 1, 1) := by decide +kernel
theorem dX9_does_76 : decode cX9_does 76 = .ok (.iaload, 1) := by decide +kernel
theorem dX9_does_77 : decode cX9_does 77 = .ok (.ireturn, 1) := by decide +kernel
theorem dX9_does_78 : decode cX9_does 78 = .ok (.aload_n 0, 1) := by decide +kernel
theorem dX9_does_79 : decode cX9_does 79 = .ok (.getfield 31, 3) := by decide +kernel
theorem dX9_does_82 : decode cX9_does 82 = .ok (.getfield 187, 3) := by decide +kernel
theorem dX9_does_85 : decode cX9_does 85 = .ok (.iload_n 1, 1) := by decide +kernel
theorem dX9_does_86 : decode cX9_does 86 = .ok (.iaload, 1) := by decide +kernel
theorem dX9_does_87 : decode cX9_does 87 = .ok (.ireturn, 1) := by decide +kernel
theorem dX9_does_88 : decode cX9_does 88 = .ok (.bipush (-2), 2) := by decide +kernel
theorem dX9_does_90 : decode cX9_does 90 = .ok (.ireturn, 1) := by decide +kernel
theorem dX9_share_0 : decode cX9_share 0 = .ok (.iload_n 1, 1) := by decide +kernel
theorem dX9_share_1 : decode cX9_share 1 = .ok (.aload_n 0, 1) := by decide +kernel
theorem dX9_share_2 : decode cX9_share 2 = .ok (.getfield 24, 3) := by decide +kernel
theorem dX9_share_5 : decode cX9_share 5 = .ok (.getfield 144, 3) := by decide +kernel
theorem dX9_share_8 : decode cX9_share 8 = .ok (.invokestatic 104, 3) := by decide +kernel
theorem dX9_share_11 : decode cX9_share 11 = .ok (.ifCond .eq 11, 3) := by decide +kernel
theorem dX9_share_14 : decode cX9_share 14 = .ok (.aload_n 0, 1) := by decide +kernel
theorem dX9_share_15 : decode cX9_share 15 = .ok (.iload_n 2, 1) := by decide +kernel
theorem dX9_share_16 : decode cX9_share 16 = .ok (.invokevirtual 132, 3) := by decide +kernel
theorem dX9_share_19 : decode cX9_share 19 = .ok (.ifCond .ne 6, 3) := by decide +kernel
theorem dX9_share_22 : decode cX9_share 22 = .ok (.bipush (-2), 2) := by decide +kernel
theorem dX9_share_24 : decode cX9_share 24 = .ok (.ireturn, 1) := by decide +kernel
theorem dX9_share_25 : decode cX9_share 25 = .ok (.iload_n 1, 1) := by decide +kernel
theorem dX9_share_26 : decode cX9_share 26 = .ok (.bipush 8, 2) := by decide +kernel
theorem dX9_share_28 : decode cX9_share 28 = .ok (.imul, 1) := by decide +kernel
theorem dX9_share_29 : decode cX9_share 29 = .ok (.iload_n 2, 1) := by decide +kernel
theorem dX9_share_30 : decode cX9_share 30 = .ok (.iadd, 1) := by decide +kernel
theorem dX9_share_31 : decode cX9_share 31 = .ok (.istore 4, 2) := by decide +kernel
theorem dX9_share_33 : decode cX9_share 33 = .ok (.iload_n 3, 1) := by decide +kernel
theorem dX9_share_34 : decode cX9_share 34 = .ok (.tableswitch 59 0 2 #[26, 37, 48], 26) := by decide +kernel
theorem dX9_share_60 : decode cX9_share 60 = .ok (.aload_n 0, 1) := by decide +kernel
theorem dX9_share_61 : decode cX9_share 61 = .ok (.getfield 31, 3) := by decide +kernel
theorem dX9_share_64 : decode cX9_share 64 = .ok (.getfield 190, 3) := by decide +kernel
theorem dX9_share_67 : decode cX9_share 67 = .ok (.iload 4, 2) := by decide +kernel
theorem dX9_share_69 : decode cX9_share 69 = .ok (.iaload, 1) := by decide +kernel
theorem dX9_share_70 : decode cX9_share 70 = .ok (.ireturn, 1) := by decide +kernel
theorem dX9_share_71 : decode cX9_share 71 = .ok (.aload_n 0, 1) := by decide +kernel
theorem dX9_share_72 : decode cX9_share 72 = .ok (.getfield 31, 3) := by decide +kernel
theorem dX9_share_75 : decode cX9_share 75 = .ok (.getfield 193, 3) := by decide +kernel
theorem dX9_share_78 : decode cX9_share 78 = .ok (.iload 4, 2) := by decide +kernel
theorem dX9_share_80 : decode cX9_share 80 = .ok (.iaload, 1) := by decide +kernel
theorem dX9_share_81 : decode cX9_share 81 = .ok (.ireturn, 1) := by decide +kernel
theorem dX9_share_82 : decode cX9_share 82 = .ok (.aload_n 0, 1) := by decide +kernel
theorem dX9_share_83 : decode cX9_share 83 = .ok (.getfield 31, 3) := by decide +kernel
theorem dX9_share_86 : decode cX9_share 86 = .ok (.getfield 196, 3) := by decide +kernel
theorem dX9_share_89 : decode cX9_share 89 = .ok (.iload 4, 2) := by decide +kernel
theorem dX9_share_91 : decode cX9_share 91 = .ok (.iaload, 1) := by decide +kernel
theorem dX9_share_92 : decode cX9_share 92 = .ok (.ireturn, 1) := by decide +kernel
theorem dX9_share_93 : decode cX9_share 93 = .ok (.bipush (-2), 2) := by decide +kernel
theorem dX9_share_95 : decode cX9_share 95 = .ok (.ireturn, 1) := by decide +kernel
theorem dX9_out_0 : decode cX9_out 0 = .ok (.aload_n 0, 1) := by decide +kernel
theorem dX9_out_1 : decode cX9_out 1 = .ok (.getfield 31, 3) := by decide +kernel
theorem dX9_out_4 : decode cX9_out 4 = .ok (.getfield 199, 3) := by decide +kernel
theorem dX9_out_7 : decode cX9_out 7 = .ok (.getfield 203, 3) := by decide +kernel
theorem dX9_out_10 : decode cX9_out 10 = .ok (.ireturn, 1) := by decide +kernel
theorem dX9_estate_0 : decode cX9_estate 0 = .ok (.aload_n 0, 1) := by decide +kernel
theorem dX9_estate_1 : decode cX9_estate 1 = .ok (.getfield 31, 3) := by decide +kernel
theorem dX9_estate_4 : decode cX9_estate 4 = .ok (.getfield 199, 3) := by decide +kernel
theorem dX9_estate_7 : decode cX9_estate 7 = .ok (.invokevirtual 208, 3) := by decide +kernel
theorem dX9_estate_10 : decode cX9_estate 10 = .ok (.ireturn, 1) := by decide +kernel
theorem dX9_richest_0 : decode cX9_richest 0 = .ok (.aload_n 0, 1) := by decide +kernel
theorem dX9_richest_1 : decode cX9_richest 1 = .ok (.getfield 31, 3) := by decide +kernel
theorem dX9_richest_4 : decode cX9_richest 4 = .ok (.getfield 199, 3) := by decide +kernel
theorem dX9_richest_7 : decode cX9_richest 7 = .ok (.invokevirtual 211, 3) := by decide +kernel
theorem dX9_richest_10 : decode cX9_richest 10 = .ok (.ireturn, 1) := by decide +kernel
theorem dX9_longest_0 : decode cX9_longest 0 = .ok (.aload_n 0, 1) := by decide +kernel
theorem dX9_longest_1 : decode cX9_longest 1 = .ok (.getfield 31, 3) := by decide +kernel
theorem dX9_longest_4 : decode cX9_longest 4 = .ok (.getfield 214, 3) := by decide +kernel
theorem dX9_longest_7 : decode cX9_longest 7 = .ok (.ireturn, 1) := by decide +kernel
theorem dX9_ditch_0 : decode cX9_ditch 0 = .ok (.aload_n 0, 1) := by decide +kernel
theorem dX9_ditch_1 : decode cX9_ditch 1 = .ok (.getfield 31, 3) := by decide +kernel
theorem dX9_ditch_4 : decode cX9_ditch 4 = .ok (.getfield 199, 3) := by decide +kernel
theorem dX9_ditch_7 : decode cX9_ditch 7 = .ok (.getfield 217, 3) := by decide +kernel
theorem dX9_ditch_10 : decode cX9_ditch 10 = .ok (.ireturn, 1) := by decide +kernel
theorem dX9_bait_0 : decode cX9_bait 0 = .ok (.aload_n 0, 1) := by decide +kernel
theorem dX9_bait_1 : decode cX9_bait 1 = .ok (.iload_n 1, 1) := by decide +kernel
theorem dX9_bait_2 : decode cX9_bait 2 = .ok (.invokevirtual 132, 3) := by decide +kernel
theorem dX9_bait_5 : decode cX9_bait 5 = .ok (.ifCond .ne 6, 3) := by decide +kernel
theorem dX9_bait_8 : decode cX9_bait 8 = .ok (.bipush (-2), 2) := by decide +kernel
theorem dX9_bait_10 : decode cX9_bait 10 = .ok (.ireturn, 1) := by decide +kernel
theorem dX9_bait_11 : decode cX9_bait 11 = .ok (.aload_n 0, 1) := by decide +kernel
theorem dX9_bait_12 : decode cX9_bait 12 = .ok (.getfield 38, 3) := by decide +kernel
theorem dX9_bait_15 : decode cX9_bait 15 = .ok (.aload_n 0, 1) := by decide +kernel
theorem dX9_bait_16 : decode cX9_bait 16 = .ok (.getfield 24, 3) := by decide +kernel
theorem dX9_bait_19 : decode cX9_bait 19 = .ok (.invokevirtual 220, 3) := by decide +kernel
theorem dX9_bait_22 : decode cX9_bait 22 = .ok (.iconst 0, 1) := by decide +kernel
theorem dX9_bait_23 : decode cX9_bait 23 = .ok (.istore_n 2, 1) := by decide +kernel
theorem dX9_bait_24 : decode cX9_bait 24 = .ok (.iload_n 2, 1) := by decide +kernel
theorem dX9_bait_25 : decode cX9_bait 25 = .ok (.bipush 10, 2) := by decide +kernel
theorem dX9_bait_27 : decode cX9_bait 27 = .ok (.if_icmp .ge 45, 3) := by decide +kernel
theorem dX9_bait_30 : decode cX9_bait 30 = .ok (.aload_n 0, 1) := by decide +kernel
theorem dX9_bait_31 : decode cX9_bait 31 = .ok (.getfield 38, 3) := by decide +kernel
theorem dX9_bait_34 : decode cX9_bait 34 = .ok (.getfield 224, 3) := by decide +kernel
theorem dX9_bait_37 : decode cX9_bait 37 = .ok (.getfield 141, 3) := by decide +kernel
theorem dX9_bait_40 : decode cX9_bait 40 = .ok (.iload_n 1, 1) := by decide +kernel
theorem dX9_bait_41 : decode cX9_bait 41 = .ok (.iload_n 2, 1) := by decide +kernel
theorem dX9_bait_42 : decode cX9_bait 42 = .ok (.iastore, 1) := by decide +kernel
theorem dX9_bait_43 : decode cX9_bait 43 = .ok (.aload_n 0, 1) := by decide +kernel
theorem dX9_bait_44 : decode cX9_bait 44 = .ok (.getfield 38, 3) := by decide +kernel
theorem dX9_bait_47 : decode cX9_bait 47 = .ok (.invokevirtual 225, 3) := by decide +kernel
theorem dX9_bait_50 : decode cX9_bait 50 = .ok (.aload_n 0, 1) := by decide +kernel
theorem dX9_bait_51 : decode cX9_bait 51 = .ok (.getfield 38, 3) := by decide +kernel
theorem dX9_bait_54 : decode cX9_bait 54 = .ok (.getfield 228, 3) := by decide +kernel
theorem dX9_bait_57 : decode cX9_bait 57 = .ok (.iload_n 1, 1) := by decide +kernel
theorem dX9_bait_58 : decode cX9_bait 58 = .ok (.invokevirtual 229, 3) := by decide +kernel
theorem dX9_bait_61 : decode cX9_bait 61 = .ok (.ifCond .eq 5, 3) := by decide +kernel
theorem dX9_bait_64 : decode cX9_bait 64 = .ok (.iload_n 2, 1) := by decide +kernel
theorem dX9_bait_65 : decode cX9_bait 65 = .ok (.ireturn, 1) := by decide +kernel
theorem dX9_bait_66 : decode cX9_bait 66 = .ok (.iinc 2 1, 3) := by decide +kernel
theorem dX9_bait_69 : decode cX9_bait 69 = .ok (.goto (-45), 3) := by decide +kernel
theorem dX9_bait_72 : decode cX9_bait 72 = .ok (.iconst (-1), 1) := by decide +kernel
theorem dX9_bait_73 : decode cX9_bait 73 = .ok (.ireturn, 1) := by decide +kernel
theorem dX9_fair_0 : decode cX9_fair 0 = .ok (.iload_n 1, 1) := by decide +kernel
theorem dX9_fair_1 : decode cX9_fair 1 = .ok (.bipush 8, 2) := by decide +kernel
theorem dX9_fair_3 : decode cX9_fair 3 = .ok (.invokestatic 104, 3) := by decide +kernel
theorem dX9_fair_6 : decode cX9_fair 6 = .ok (.ifCond .ne 6, 3) := by decide +kernel
theorem dX9_fair_9 : decode cX9_fair 9 = .ok (.bipush (-2), 2) := by decide +kernel
theorem dX9_fair_11 : decode cX9_fair 11 = .ok (.ireturn, 1) := by decide +kernel
theorem dX9_fair_12 : decode cX9_fair 12 = .ok (.aload_n 0, 1) := by decide +kernel
theorem dX9_fair_13 : decode cX9_fair 13 = .ok (.getfield 24, 3) := by decide +kernel
theorem dX9_fair_16 : decode cX9_fair 16 = .ok (.getfield 232, 3) := by decide +kernel
theorem dX9_fair_19 : decode cX9_fair 19 = .ok (.ifCond .eq 14, 3) := by decide +kernel
theorem dX9_fair_22 : decode cX9_fair 22 = .ok (.iload_n 1, 1) := by decide +kernel
theorem dX9_fair_23 : decode cX9_fair 23 = .ok (.aload_n 0, 1) := by decide +kernel
theorem dX9_fair_24 : decode cX9_fair 24 = .ok (.getfield 24, 3) := by decide +kernel
theorem dX9_fair_27 : decode cX9_fair 27 = .ok (.getfield 232, 3) := by decide +kernel
theorem dX9_fair_30 : decode cX9_fair 30 = .ok (.if_icmp .le 5, 3) := by decide +kernel
theorem dX9_fair_33 : decode cX9_fair 33 = .ok (.iconst (-1), 1) := by decide +kernel
theorem dX9_fair_34 : decode cX9_fair 34 = .ok (.ireturn, 1) := by decide +kernel
theorem dX9_fair_35 : decode cX9_fair 35 = .ok (.aload_n 0, 1) := by decide +kernel
theorem dX9_fair_36 : decode cX9_fair 36 = .ok (.getfield 76, 3) := by decide +kernel
theorem dX9_fair_39 : decode cX9_fair 39 = .ok (.ifCond .ne 19, 3) := by decide +kernel
theorem dX9_fair_42 : decode cX9_fair 42 = .ok (.aload_n 0, 1) := by decide +kernel
theorem dX9_fair_43 : decode cX9_fair 43 = .ok (.getfield 59, 3) := by decide +kernel
theorem dX9_fair_46 : decode cX9_fair 46 = .ok (.aload_n 0, 1) := by decide +kernel
theorem dX9_fair_47 : decode cX9_fair 47 = .ok (.getfield 24, 3) := by decide +kernel
theorem dX9_fair_50 : decode cX9_fair 50 = .ok (.invokevirtual 235, 3) := by decide +kernel
theorem dX9_fair_53 : decode cX9_fair 53 = .ok (.aload_n 0, 1) := by decide +kernel
theorem dX9_fair_54 : decode cX9_fair 54 = .ok (.iconst 1, 1) := by decide +kernel
theorem dX9_fair_55 : decode cX9_fair 55 = .ok (.putfield 76, 3) := by decide +kernel
theorem dX9_fair_58 : decode cX9_fair 58 = .ok (.iload_n 1, 1) := by decide +kernel
theorem dX9_fair_59 : decode cX9_fair 59 = .ok (.ifCond .ne 13, 3) := by decide +kernel
theorem dX9_fair_62 : decode cX9_fair 62 = .ok (.aload_n 0, 1) := by decide +kernel
theorem dX9_fair_63 : decode cX9_fair 63 = .ok (.getfield 59, 3) := by decide +kernel
theorem dX9_fair_66 : decode cX9_fair 66 = .ok (.getfield 238, 3) := by decide +kernel
theorem dX9_fair_69 : decode cX9_fair 69 = .ok (.goto 14, 3) := by decide +kernel
theorem dX9_fair_72 : decode cX9_fair 72 = .ok (.aload_n 0, 1) := by decide +kernel
theorem dX9_fair_73 : decode cX9_fair 73 = .ok (.getfield 59, 3) := by decide +kernel
theorem dX9_fair_76 : decode cX9_fair 76 = .ok (.getfield 241, 3) := by decide +kernel
theorem dX9_fair_79 : decode cX9_fair 79 = .ok (.iload_n 1, 1) := by decide +kernel
theorem dX9_fair_80 : decode cX9_fair 80 = .ok (.iconst 1, 1) := by decide +kernel
theorem dX9_fair_81 : decode cX9_fair 81 = .ok (.isub, 1) := by decide +kernel
theorem dX9_fair_82 : decode cX9_fair 82 = .ok (.iaload, 1) := by decide +kernel
theorem dX9_fair_83 : decode cX9_fair 83 = .ok (.ireturn, 1) := by decide +kernel
theorem dX9_care_0 : decode cX9_care 0 = .ok (.aload_n 0, 1) := by decide +kernel
theorem dX9_care_1 : decode cX9_care 1 = .ok (.iload_n 1, 1) := by decide +kernel
theorem dX9_care_2 : decode cX9_care 2 = .ok (.invokevirtual 132, 3) := by decide +kernel
theorem dX9_care_5 : decode cX9_care 5 = .ok (.ifCond .ne 6, 3) := by decide +kernel
theorem dX9_care_8 : decode cX9_care 8 = .ok (.bipush (-2), 2) := by decide +kernel
theorem dX9_care_10 : decode cX9_care 10 = .ok (.ireturn, 1) := by decide +kernel
theorem dX9_care_11 : decode cX9_care 11 = .ok (.aload_n 0, 1) := by decide +kernel
theorem dX9_care_12 : decode cX9_care 12 = .ok (.getfield 38, 3) := by decide +kernel
theorem dX9_care_15 : decode cX9_care 15 = .ok (.aload_n 0, 1) := by decide +kernel
theorem dX9_care_16 : decode cX9_care 16 = .ok (.getfield 24, 3) := by decide +kernel
theorem dX9_care_19 : decode cX9_care 19 = .ok (.invokevirtual 220, 3) := by decide +kernel
theorem dX9_care_22 : decode cX9_care 22 = .ok (.iconst 0, 1) := by decide +kernel
theorem dX9_care_23 : decode cX9_care 23 = .ok (.istore_n 2, 1) := by decide +kernel
theorem dX9_care_24 : decode cX9_care 24 = .ok (.iload_n 2, 1) := by decide +kernel
theorem dX9_care_25 : decode cX9_care 25 = .ok (.bipush 10, 2) := by decide +kernel
theorem dX9_care_27 : decode cX9_care 27 = .ok (.if_icmp .ge 45, 3) := by decide +kernel
theorem dX9_care_30 : decode cX9_care 30 = .ok (.aload_n 0, 1) := by decide +kernel
theorem dX9_care_31 : decode cX9_care 31 = .ok (.getfield 38, 3) := by decide +kernel
theorem dX9_care_34 : decode cX9_care 34 = .ok (.getfield 224, 3) := by decide +kernel
theorem dX9_care_37 : decode cX9_care 37 = .ok (.getfield 138, 3) := by decide +kernel
theorem dX9_care_40 : decode cX9_care 40 = .ok (.iload_n 1, 1) := by decide +kernel
theorem dX9_care_41 : decode cX9_care 41 = .ok (.iload_n 2, 1) := by decide +kernel
theorem dX9_care_42 : decode cX9_care 42 = .ok (.iastore, 1) := by decide +kernel
theorem dX9_care_43 : decode cX9_care 43 = .ok (.aload_n 0, 1) := by decide +kernel
theorem dX9_care_44 : decode cX9_care 44 = .ok (.getfield 38, 3) := by decide +kernel
theorem dX9_care_47 : decode cX9_care 47 = .ok (.invokevirtual 225, 3) := by decide +kernel
theorem dX9_care_50 : decode cX9_care 50 = .ok (.aload_n 0, 1) := by decide +kernel
theorem dX9_care_51 : decode cX9_care 51 = .ok (.getfield 38, 3) := by decide +kernel
theorem dX9_care_54 : decode cX9_care 54 = .ok (.getfield 228, 3) := by decide +kernel
theorem dX9_care_57 : decode cX9_care 57 = .ok (.iload_n 1, 1) := by decide +kernel
theorem dX9_care_58 : decode cX9_care 58 = .ok (.invokevirtual 244, 3) := by decide +kernel
theorem dX9_care_61 : decode cX9_care 61 = .ok (.ifCond .ne 5, 3) := by decide +kernel
theorem dX9_care_64 : decode cX9_care 64 = .ok (.iload_n 2, 1) := by decide +kernel
theorem dX9_care_65 : decode cX9_care 65 = .ok (.ireturn, 1) := by decide +kernel
theorem dX9_care_66 : decode cX9_care 66 = .ok (.iinc 2 1, 3) := by decide +kernel
theorem dX9_care_69 : decode cX9_care 69 = .ok (.goto (-45), 3) := by decide +kernel
theorem dX9_care_72 : decode cX9_care 72 = .ok (.iconst (-1), 1) := by decide +kernel
theorem dX9_care_73 : decode cX9_care 73 = .ok (.ireturn, 1) := by decide +kernel
theorem dX9_skip_0 : decode cX9_skip 0 = .ok (.aload_n 0, 1) := by decide +kernel
theorem dX9_skip_1 : decode cX9_skip 1 = .ok (.iload_n 1, 1) := by decide +kernel
theorem dX9_skip_2 : decode cX9_skip 2 = .ok (.invokevirtual 132, 3) := by decide +kernel
theorem dX9_skip_5 : decode cX9_skip 5 = .ok (.ifCond .eq 11, 3) := by decide +kernel
theorem dX9_skip_8 : decode cX9_skip 8 = .ok (.iload_n 2, 1) := by decide +kernel
theorem dX9_skip_9 : decode cX9_skip 9 = .ok (.iconst 1, 1) := by decide +kernel
theorem dX9_skip_10 : decode cX9_skip 10 = .ok (.invokestatic 104, 3) := by decide +kernel
theorem dX9_skip_13 : decode cX9_skip 13 = .ok (.ifCond .ne 6, 3) := by decide +kernel
theorem dX9_skip_16 : decode cX9_skip 16 = .ok (.bipush (-2), 2) := by decide +kernel
theorem dX9_skip_18 : decode cX9_skip 18 = .ok (.ireturn, 1) := by decide +kernel
theorem dX9_skip_19 : decode cX9_skip 19 = .ok (.aload_n 0, 1) := by decide +kernel
theorem dX9_skip_20 : decode cX9_skip 20 = .ok (.getfield 38, 3) := by decide +kernel
theorem dX9_skip_23 : decode cX9_skip 23 = .ok (.aload_n 0, 1) := by decide +kernel
theorem dX9_skip_24 : decode cX9_skip 24 = .ok (.getfield 24, 3) := by decide +kernel
theorem dX9_skip_27 : decode cX9_skip 27 = .ok (.invokevirtual 220, 3) := by decide +kernel
theorem dX9_skip_30 : decode cX9_skip 30 = .ok (.iconst (-1), 1) := by decide +kernel
theorem dX9_skip_31 : decode cX9_skip 31 = .ok (.istore_n 3, 1) := by decide +kernel
theorem dX9_skip_32 : decode cX9_skip 32 = .ok (.iconst (-1), 1) := by decide +kernel
theorem dX9_skip_33 : decode cX9_skip 33 = .ok (.istore 4, 2) := by decide +kernel
theorem dX9_skip_35 : decode cX9_skip 35 = .ok (.iconst 0, 1) := by decide +kernel
theorem dX9_skip_36 : decode cX9_skip 36 = .ok (.istore 5, 2) := by decide +kernel
theorem dX9_skip_38 : decode cX9_skip 38 = .ok (.iload 5, 2) := by decide +kernel
theorem dX9_skip_40 : decode cX9_skip 40 = .ok (.aload_n 0, 1) := by decide +kernel
theorem dX9_skip_41 : decode cX9_skip 41 = .ok (.getfield 24, 3) := by decide +kernel
theorem dX9_skip_44 : decode cX9_skip 44 = .ok (.getfield 232, 3) := by decide +kernel
theorem dX9_skip_47 : decode cX9_skip 47 = .ok (.if_icmp .ge 68, 3) := by decide +kernel
theorem dX9_skip_50 : decode cX9_skip 50 = .ok (.iload 5, 2) := by decide +kernel
theorem dX9_skip_52 : decode cX9_skip 52 = .ok (.iload_n 1, 1) := by decide +kernel
theorem dX9_skip_53 : decode cX9_skip 53 = .ok (.if_icmp .eq 56, 3) := by decide +kernel
theorem dX9_skip_56 : decode cX9_skip 56 = .ok (.aload_n 0, 1) := by decide +kernel
theorem dX9_skip_57 : decode cX9_skip 57 = .ok (.getfield 38, 3) := by decide +kernel
theorem dX9_skip_60 : decode cX9_skip 60 = .ok (.getfield 224, 3) := by decide +kernel
theorem dX9_skip_63 : decode cX9_skip 63 = .ok (.iload 5, 2) := by decide +kernel
theorem dX9_skip_65 : decode cX9_skip 65 = .ok (.putfield 247, 3) := by decide +kernel
theorem dX9_skip_68 : decode cX9_skip 68 = .ok (.aload_n 0, 1) := by decide +kernel
theorem dX9_skip_69 : decode cX9_skip 69 = .ok (.getfield 38, 3) := by decide +kernel
theorem dX9_skip_72 : decode cX9_skip 72 = .ok (.invokevirtual 225, 3) := by decide +kernel
theorem dX9_skip_75 : decode cX9_skip 75 = .ok (.aload_n 0, 1) := by decide +kernel
theorem dX9_skip_76 : decode cX9_skip 76 = .ok (.getfield 38, 3) := by decide +kernel
theorem dX9_skip_79 : decode cX9_skip 79 = .ok (.getfield 228, 3) := by decide +kernel
theorem dX9_skip_82 : decode cX9_skip 82 = .ok (.getfield 250, 3) := by decide +kernel
theorem dX9_skip_85 : decode cX9_skip 85 = .ok (.iload_n 1, 1) := by decide +kernel
theorem dX9_skip_86 : decode cX9_skip 86 = .ok (.iaload, 1) := by decide +kernel
theorem dX9_skip_87 : decode cX9_skip 87 = .ok (.iload 4, 2) := by decide +kernel
theorem dX9_skip_89 : decode cX9_skip 89 = .ok (.if_icmp .le 20, 3) := by decide +kernel
theorem dX9_skip_92 : decode cX9_skip 92 = .ok (.aload_n 0, 1) := by decide +kernel
theorem dX9_skip_93 : decode cX9_skip 93 = .ok (.getfield 38, 3) := by decide +kernel
theorem dX9_skip_96 : decode cX9_skip 96 = .ok (.getfield 228, 3) := by decide +kernel
theorem dX9_skip_99 : decode cX9_skip 99 = .ok (.getfield 250, 3) := by decide +kernel
theorem dX9_skip_102 : decode cX9_skip 102 = .ok (.iload_n 1, 1) := by decide +kernel
theorem dX9_skip_103 : decode cX9_skip 103 = .ok (.iaload, 1) := by decide +kernel
theorem dX9_skip_104 : decode cX9_skip 104 = .ok (.istore 4, 2) := by decide +kernel
theorem dX9_skip_106 : decode cX9_skip 106 = .ok (.iload 5, 2) := by decide +kernel
theorem dX9_skip_108 : decode cX9_skip 108 = .ok (.istore_n 3, 1) := by decide +kernel
theorem dX9_skip_109 : decode cX9_skip 109 = .ok (.iinc 5 1, 3) := by decide +kernel
theorem dX9_skip_112 : decode cX9_skip 112 = .ok (.goto (-74), 3) := by decide +kernel
theorem dX9_skip_115 : decode cX9_skip 115 = .ok (.iload_n 2, 1) := by decide +kernel
theorem dX9_skip_116 : decode cX9_skip 116 = .ok (.ifCond .ne 7, 3) := by decide +kernel
theorem dX9_skip_119 : decode cX9_skip 119 = .ok (.iload_n 3, 1) := by decide +kernel
theorem dX9_skip_120 : decode cX9_skip 120 = .ok (.goto 5, 3) := by decide +kernel
theorem dX9_skip_123 : decode cX9_skip 123 = .ok (.iload 4, 2) := by decide +kernel
theorem dX9_skip_125 : decode cX9_skip 125 = .ok (.ireturn, 1) := by decide +kernel
theorem dX9_seen_0 : decode cX9_seen 0 = .ok (.iload_n 1, 1) := by decide +kernel
theorem dX9_seen_1 : decode cX9_seen 1 = .ok (.bipush 19, 2) := by decide +kernel
theorem dX9_seen_3 : decode cX9_seen 3 = .ok (.invokestatic 104, 3) := by decide +kernel
theorem dX9_seen_6 : decode cX9_seen 6 = .ok (.ifCond .eq 11, 3) := by decide +kernel
theorem dX9_seen_9 : decode cX9_seen 9 = .ok (.iload_n 2, 1) := by decide +kernel
theorem dX9_seen_10 : decode cX9_seen 10 = .ok (.iconst 4, 1) := by decide +kernel
theorem dX9_seen_11 : decode cX9_seen 11 = .ok (.invokestatic 104, 3) := by decide +kernel
theorem dX9_seen_14 : decode cX9_seen 14 = .ok (.ifCond .ne 6, 3) := by decide +kernel
theorem dX9_seen_17 : decode cX9_seen 17 = .ok (.bipush (-2), 2) := by decide +kernel
theorem dX9_seen_19 : decode cX9_seen 19 = .ok (.ireturn, 1) := by decide +kernel
theorem dX9_seen_20 : decode cX9_seen 20 = .ok (.aload_n 0, 1) := by decide +kernel
theorem dX9_seen_21 : decode cX9_seen 21 = .ok (.getfield 52, 3) := by decide +kernel
theorem dX9_seen_24 : decode cX9_seen 24 = .ok (.getfield 253, 3) := by decide +kernel
theorem dX9_seen_27 : decode cX9_seen 27 = .ok (.bipush 8, 2) := by decide +kernel
theorem dX9_seen_29 : decode cX9_seen 29 = .ok (.if_icmp .lt 6, 3) := by decide +kernel
theorem dX9_seen_32 : decode cX9_seen 32 = .ok (.bipush (-4), 2) := by decide +kernel
theorem dX9_seen_34 : decode cX9_seen 34 = .ok (.ireturn, 1) := by decide +kernel
theorem dX9_seen_35 : decode cX9_seen 35 = .ok (.aload_n 0, 1) := by decide +kernel
theorem dX9_seen_36 : decode cX9_seen 36 = .ok (.getfield 52, 3) := by decide +kernel
theorem dX9_seen_39 : decode cX9_seen 39 = .ok (.iload_n 1, 1) := by decide +kernel
theorem dX9_seen_40 : decode cX9_seen 40 = .ok (.iload_n 2, 1) := by decide +kernel
theorem dX9_seen_41 : decode cX9_seen 41 = .ok (.invokevirtual 254, 3) := by decide +kernel
theorem dX9_seen_44 : decode cX9_seen 44 = .ok (.aload_n 0, 1) := by decide +kernel
theorem dX9_seen_45 : decode cX9_seen 45 = .ok (.getfield 52, 3) := by decide +kernel
theorem dX9_seen_48 : decode cX9_seen 48 = .ok (.getfield 253, 3) := by decide +kernel
theorem dX9_seen_51 : decode cX9_seen 51 = .ok (.ireturn, 1) := by decide +kernel
theorem dX9_forget_0 : decode cX9_forget 0 = .ok (.aload_n 0, 1) := by decide +kernel
theorem dX9_forget_1 : decode cX9_forget 1 = .ok (.getfield 52, 3) := by decide +kernel
theorem dX9_forget_4 : decode cX9_forget 4 = .ok (.getfield 253, 3) := by decide +kernel
theorem dX9_forget_7 : decode cX9_forget 7 = .ok (.istore_n 1, 1) := by decide +kernel
theorem dX9_forget_8 : decode cX9_forget 8 = .ok (.aload_n 0, 1) := by decide +kernel
theorem dX9_forget_9 : decode cX9_forget 9 = .ok (.getfield 52, 3) := by decide +kernel
theorem dX9_forget_12 : decode cX9_forget 12 = .ok (.iconst 0, 1) := by decide +kernel
theorem dX9_forget_13 : decode cX9_forget 13 = .ok (.putfield 253, 3) := by decide +kernel
theorem dX9_forget_16 : decode cX9_forget 16 = .ok (.iload_n 1, 1) := by decide +kernel
theorem dX9_forget_17 : decode cX9_forget 17 = .ok (.ireturn, 1) := by decide +kernel
theorem dX9_never_0 : decode cX9_never 0 = .ok (.aload_n 0, 1) := by decide +kernel
theorem dX9_never_1 : decode cX9_never 1 = .ok (.getfield 38, 3) := by decide +kernel
theorem dX9_never_4 : decode cX9_never 4 = .ok (.aload_n 0, 1) := by decide +kernel
theorem dX9_never_5 : decode cX9_never 5 = .ok (.getfield 24, 3) := by decide +kernel
theorem dX9_never_8 : decode cX9_never 8 = .ok (.invokevirtual 220, 3) := by decide +kernel
theorem dX9_never_11 : decode cX9_never 11 = .ok (.iconst 0, 1) := by decide +kernel
theorem dX9_never_12 : decode cX9_never 12 = .ok (.istore_n 1, 1) := by decide +kernel
theorem dX9_never_13 : decode cX9_never 13 = .ok (.iconst 0, 1) := by decide +kernel
theorem dX9_never_14 : decode cX9_never 14 = .ok (.istore_n 2, 1) := by decide +kernel
theorem dX9_never_15 : decode cX9_never 15 = .ok (.iload_n 2, 1) := by decide +kernel
theorem dX9_never_16 : decode cX9_never 16 = .ok (.aload_n 0, 1) := by decide +kernel
theorem dX9_never_17 : decode cX9_never 17 = .ok (.getfield 45, 3) := by decide +kernel
theorem dX9_never_20 : decode cX9_never 20 = .ok (.getfield 156, 3) := by decide +kernel
theorem dX9_never_23 : decode cX9_never 23 = .ok (.if_icmp .ge 54, 3) := by decide +kernel
theorem dX9_never_26 : decode cX9_never 26 = .ok (.aload_n 0, 1) := by decide +kernel
theorem dX9_never_27 : decode cX9_never 27 = .ok (.getfield 38, 3) := by decide +kernel
theorem dX9_never_30 : decode cX9_never 30 = .ok (.getfield 224, 3) := by decide +kernel
theorem dX9_never_33 : decode cX9_never 33 = .ok (.aload_n 0, 1) := by decide +kernel
theorem dX9_never_34 : decode cX9_never 34 = .ok (.getfield 45, 3) := by decide +kernel
theorem dX9_never_37 : decode cX9_never 37 = .ok (.iload_n 2, 1) := by decide +kernel
theorem dX9_never_38 : decode cX9_never 38 = .ok (.invokevirtual 257, 3) := by decide +kernel
theorem dX9_never_41 : decode cX9_never 41 = .ok (.putfield 260, 3) := by decide +kernel
theorem dX9_never_44 : decode cX9_never 44 = .ok (.aload_n 0, 1) := by decide +kernel
theorem dX9_never_45 : decode cX9_never 45 = .ok (.getfield 38, 3) := by decide +kernel
theorem dX9_never_48 : decode cX9_never 48 = .ok (.invokevirtual 225, 3) := by decide +kernel
theorem dX9_never_51 : decode cX9_never 51 = .ok (.aload_n 0, 1) := by decide +kernel
theorem dX9_never_52 : decode cX9_never 52 = .ok (.getfield 52, 3) := by decide +kernel
theorem dX9_never_55 : decode cX9_never 55 = .ok (.aload_n 0, 1) := by decide +kernel
theorem dX9_never_56 : decode cX9_never 56 = .ok (.getfield 38, 3) := by decide +kernel
theorem dX9_never_59 : decode cX9_never 59 = .ok (.invokevirtual 263, 3) := by decide +kernel
theorem dX9_never_62 : decode cX9_never 62 = .ok (.ifCond .eq 9, 3) := by decide +kernel
theorem dX9_never_65 : decode cX9_never 65 = .ok (.iload_n 1, 1) := by decide +kernel
theorem dX9_never_66 : decode cX9_never 66 = .ok (.iconst 1, 1) := by decide +kernel
theorem dX9_never_67 : decode cX9_never 67 = .ok (.iload_n 2, 1) := by decide +kernel
theorem dX9_never_68 : decode cX9_never 68 = .ok (.ishl, 1) := by decide +kernel
theorem dX9_never_69 : decode cX9_never 69 = .ok (.ior, 1) := by decide +kernel
theorem dX9_never_70 : decode cX9_never 70 = .ok (.istore_n 1, 1) := by decide +kernel
theorem dX9_never_71 : decode cX9_never 71 = .ok (.iinc 2 1, 3) := by decide +kernel
theorem dX9_never_74 : decode cX9_never 74 = .ok (.goto (-59), 3) := by decide +kernel
theorem dX9_never_77 : decode cX9_never 77 = .ok (.iload_n 1, 1) := by decide +kernel
theorem dX9_never_78 : decode cX9_never 78 = .ok (.ireturn, 1) := by decide +kernel
theorem dX9_was_0 : decode cX9_was 0 = .ok (.aload_n 0, 1) := by decide +kernel
theorem dX9_was_1 : decode cX9_was 1 = .ok (.iload_n 1, 1) := by decide +kernel
theorem dX9_was_2 : decode cX9_was 2 = .ok (.invokevirtual 132, 3) := by decide +kernel
theorem dX9_was_5 : decode cX9_was 5 = .ok (.ifCond .eq 11, 3) := by decide +kernel
theorem dX9_was_8 : decode cX9_was 8 = .ok (.iload_n 2, 1) := by decide +kernel
theorem dX9_was_9 : decode cX9_was 9 = .ok (.iconst 1, 1) := by decide +kernel
theorem dX9_was_10 : decode cX9_was 10 = .ok (.invokestatic 104, 3) := by decide +kernel
theorem dX9_was_13 : decode cX9_was 13 = .ok (.ifCond .ne 6, 3) := by decide +kernel
theorem dX9_was_16 : decode cX9_was 16 = .ok (.bipush (-2), 2) := by decide +kernel
theorem dX9_was_18 : decode cX9_was 18 = .ok (.ireturn, 1) := by decide +kernel
theorem dX9_was_19 : decode cX9_was 19 = .ok (.aload_n 0, 1) := by decide +kernel
theorem dX9_was_20 : decode cX9_was 20 = .ok (.getfield 38, 3) := by decide +kernel
theorem dX9_was_23 : decode cX9_was 23 = .ok (.aload_n 0, 1) := by decide +kernel
theorem dX9_was_24 : decode cX9_was 24 = .ok (.getfield 24, 3) := by decide +kernel
theorem dX9_was_27 : decode cX9_was 27 = .ok (.invokevirtual 220, 3) := by decide +kernel
theorem dX9_was_30 : decode cX9_was 30 = .ok (.iload_n 2, 1) := by decide +kernel
theorem dX9_was_31 : decode cX9_was 31 = .ok (.ifCond .ne 16, 3) := by decide +kernel
theorem dX9_was_34 : decode cX9_was 34 = .ok (.aload_n 0, 1) := by decide +kernel
theorem dX9_was_35 : decode cX9_was 35 = .ok (.getfield 38, 3) := by decide +kernel
theorem dX9_was_38 : decode cX9_was 38 = .ok (.getfield 224, 3) := by decide +kernel
theorem dX9_was_41 : decode cX9_was 41 = .ok (.getfield 141, 3) := by decide +kernel
theorem dX9_was_44 : decode cX9_was 44 = .ok (.goto 13, 3) := by decide +kernel
theorem dX9_was_47 : decode cX9_was 47 = .ok (.aload_n 0, 1) := by decide +kernel
theorem dX9_was_48 : decode cX9_was 48 = .ok (.getfield 38, 3) := by decide +kernel
theorem dX9_was_51 : decode cX9_was 51 = .ok (.getfield 224, 3) := by decide +kernel
theorem dX9_was_54 : decode cX9_was 54 = .ok (.getfield 138, 3) := by decide +kernel
theorem dX9_was_57 : decode cX9_was 57 = .ok (.astore_n 3, 1) := by decide +kernel
theorem dX9_was_58 : decode cX9_was 58 = .ok (.iconst 0, 1) := by decide +kernel
theorem dX9_was_59 : decode cX9_was 59 = .ok (.istore 4, 2) := by decide +kernel
theorem dX9_was_61 : decode cX9_was 61 = .ok (.iconst 0, 1) := by decide +kernel
theorem dX9_was_62 : decode cX9_was 62 = .ok (.istore 5, 2) := by decide +kernel
theorem dX9_was_64 : decode cX9_was 64 = .ok (.iload 5, 2) := by decide +kernel
theorem dX9_was_66 : decode cX9_was 66 = .ok (.bipush 10, 2) := by decide +kernel
theorem dX9_was_68 : decode cX9_was 68 = .ok (.if_icmp .ge 44, 3) := by decide +kernel
theorem dX9_was_71 : decode cX9_was 71 = .ok (.aload_n 3, 1) := by decide +kernel
theorem dX9_was_72 : decode cX9_was 72 = .ok (.iload_n 1, 1) := by decide +kernel
theorem dX9_was_73 : decode cX9_was 73 = .ok (.iload 5, 2) := by decide +kernel
theorem dX9_was_75 : decode cX9_was 75 = .ok (.iastore, 1) := by decide +kernel
theorem dX9_was_76 : decode cX9_was 76 = .ok (.aload_n 0, 1) := by decide +kernel
theorem dX9_was_77 : decode cX9_was 77 = .ok (.getfield 38, 3) := by decide +kernel
theorem dX9_was_80 : decode cX9_was 80 = .ok (.invokevirtual 225, 3) := by decide +kernel
theorem dX9_was_83 : decode cX9_was 83 = .ok (.aload_n 0, 1) := by decide +kernel
theorem dX9_was_84 : decode cX9_was 84 = .ok (.getfield 52, 3) := by decide +kernel
theorem dX9_was_87 : decode cX9_was 87 = .ok (.aload_n 0, 1) := by decide +kernel
theorem dX9_was_88 : decode cX9_was 88 = .ok (.getfield 38, 3) := by decide +kernel
theorem dX9_was_91 : decode cX9_was 91 = .ok (.invokevirtual 263, 3) := by decide +kernel
theorem dX9_was_94 : decode cX9_was 94 = .ok (.ifCond .eq 12, 3) := by decide +kernel
theorem dX9_was_97 : decode cX9_was 97 = .ok (.iload 4, 2) := by decide +kernel
theorem dX9_was_99 : decode cX9_was 99 = .ok (.iconst 1, 1) := by decide +kernel
theorem dX9_was_100 : decode cX9_was 100 = .ok (.iload 5, 2) := by decide +kernel
theorem dX9_was_102 : decode cX9_was 102 = .ok (.ishl, 1) := by decide +kernel
theorem dX9_was_103 : decode cX9_was 103 = .ok (.ior, 1) := by decide +kernel
theorem dX9_was_104 : decode cX9_was 104 = .ok (.istore 4, 2) := by decide +kernel
theorem dX9_was_106 : decode cX9_was 106 = .ok (.iinc 5 1, 3) := by decide +kernel
theorem dX9_was_109 : decode cX9_was 109 = .ok (.goto (-45), 3) := by decide +kernel
theorem dX9_was_112 : decode cX9_was 112 = .ok (.iload 4, 2) := by decide +kernel
theorem dX9_was_114 : decode cX9_was 114 = .ok (.ireturn, 1) := by decide +kernel
theorem dX9_ask_0 : decode cX9_ask 0 = .ok (.aload_n 0, 1) := by decide +kernel
theorem dX9_ask_1 : decode cX9_ask 1 = .ok (.iload_n 1, 1) := by decide +kernel
theorem dX9_ask_2 : decode cX9_ask 2 = .ok (.invokevirtual 132, 3) := by decide +kernel
theorem dX9_ask_5 : decode cX9_ask 5 = .ok (.ifCond .ne 6, 3) := by decide +kernel
theorem dX9_ask_8 : decode cX9_ask 8 = .ok (.bipush (-2), 2) := by decide +kernel
theorem dX9_ask_10 : decode cX9_ask 10 = .ok (.ireturn, 1) := by decide +kernel
theorem dX9_ask_11 : decode cX9_ask 11 = .ok (.aload_n 0, 1) := by decide +kernel
theorem dX9_ask_12 : decode cX9_ask 12 = .ok (.getfield 67, 3) := by decide +kernel
theorem dX9_ask_15 : decode cX9_ask 15 = .ok (.iconst 0, 1) := by decide +kernel
theorem dX9_ask_16 : decode cX9_ask 16 = .ok (.invokestatic 267, 3) := by decide +kernel
theorem dX9_ask_19 : decode cX9_ask 19 = .ok (.aload_n 0, 1) := by decide +kernel
theorem dX9_ask_20 : decode cX9_ask 20 = .ok (.getfield 38, 3) := by decide +kernel
theorem dX9_ask_23 : decode cX9_ask 23 = .ok (.aload_n 0, 1) := by decide +kernel
theorem dX9_ask_24 : decode cX9_ask 24 = .ok (.getfield 24, 3) := by decide +kernel
theorem dX9_ask_27 : decode cX9_ask 27 = .ok (.invokevirtual 220, 3) := by decide +kernel
theorem dX9_ask_30 : decode cX9_ask 30 = .ok (.iconst 0, 1) := by decide +kernel
theorem dX9_ask_31 : decode cX9_ask 31 = .ok (.istore_n 2, 1) := by decide +kernel
theorem dX9_ask_32 : decode cX9_ask 32 = .ok (.iload_n 2, 1) := by decide +kernel
theorem dX9_ask_33 : decode cX9_ask 33 = .ok (.bipush 10, 2) := by decide +kernel
theorem dX9_ask_35 : decode cX9_ask 35 = .ok (.if_icmp .ge 47, 3) := by decide +kernel
theorem dX9_ask_38 : decode cX9_ask 38 = .ok (.aload_n 0, 1) := by decide +kernel
theorem dX9_ask_39 : decode cX9_ask 39 = .ok (.getfield 38, 3) := by decide +kernel
theorem dX9_ask_42 : decode cX9_ask 42 = .ok (.getfield 224, 3) := by decide +kernel
theorem dX9_ask_45 : decode cX9_ask 45 = .ok (.getfield 141, 3) := by decide +kernel
theorem dX9_ask_48 : decode cX9_ask 48 = .ok (.iload_n 1, 1) := by decide +kernel
theorem dX9_ask_49 : decode cX9_ask 49 = .ok (.iload_n 2, 1) := by decide +kernel
theorem dX9_ask_50 : decode cX9_ask 50 = .ok (.iastore, 1) := by decide +kernel
theorem dX9_ask_51 : decode cX9_ask 51 = .ok (.aload_n 0, 1) := by decide +kernel
theorem dX9_ask_52 : decode cX9_ask 52 = .ok (.getfield 38, 3) := by decide +kernel
theorem dX9_ask_55 : decode cX9_ask 55 = .ok (.invokevirtual 225, 3) := by decide +kernel
theorem dX9_ask_58 : decode cX9_ask 58 = .ok (.aload_n 0, 1) := by decide +kernel
theorem dX9_ask_59 : decode cX9_ask 59 = .ok (.getfield 52, 3) := by decide +kernel
theorem dX9_ask_62 : decode cX9_ask 62 = .ok (.aload_n 0, 1) := by decide +kernel
theorem dX9_ask_63 : decode cX9_ask 63 = .ok (.getfield 38, 3) := by decide +kernel
theorem dX9_ask_66 : decode cX9_ask 66 = .ok (.invokevirtual 263, 3) := by decide +kernel
theorem dX9_ask_69 : decode cX9_ask 69 = .ok (.ifCond .eq 7, 3) := by decide +kernel
theorem dX9_ask_72 : decode cX9_ask 72 = .ok (.aload_n 0, 1) := by decide +kernel
theorem dX9_ask_73 : decode cX9_ask 73 = .ok (.invokevirtual 273, 3) := by decide +kernel
theorem dX9_ask_76 : decode cX9_ask 76 = .ok (.iinc 2 1, 3) := by decide +kernel
theorem dX9_ask_79 : decode cX9_ask 79 = .ok (.goto (-47), 3) := by decide +kernel
theorem dX9_ask_82 : decode cX9_ask 82 = .ok (.iconst (-1), 1) := by decide +kernel
theorem dX9_ask_83 : decode cX9_ask 83 = .ok (.istore_n 2, 1) := by decide +kernel
theorem dX9_ask_84 : decode cX9_ask 84 = .ok (.bipush 11, 2) := by decide +kernel
theorem dX9_ask_86 : decode cX9_ask 86 = .ok (.istore_n 3, 1) := by decide +kernel
theorem dX9_ask_87 : decode cX9_ask 87 = .ok (.iconst 0, 1) := by decide +kernel
theorem dX9_ask_88 : decode cX9_ask 88 = .ok (.istore 4, 2) := by decide +kernel
theorem dX9_ask_90 : decode cX9_ask 90 = .ok (.iload 4, 2) := by decide +kernel
theorem dX9_ask_92 : decode cX9_ask 92 = .ok (.aload_n 0, 1) := by decide +kernel
theorem dX9_ask_93 : decode cX9_ask 93 = .ok (.getfield 24, 3) := by decide +kernel
theorem dX9_ask_96 : decode cX9_ask 96 = .ok (.getfield 144, 3) := by decide +kernel
theorem dX9_ask_99 : decode cX9_ask 99 = .ok (.if_icmp .ge 29, 3) := by decide +kernel
theorem dX9_ask_102 : decode cX9_ask 102 = .ok (.aload_n 0, 1) := by decide +kernel
theorem dX9_ask_103 : decode cX9_ask 103 = .ok (.iload 4, 2) := by decide +kernel
theorem dX9_ask_105 : decode cX9_ask 105 = .ok (.invokevirtual 276, 3) := by decide +kernel
theorem dX9_ask_108 : decode cX9_ask 108 = .ok (.istore 5, 2) := by decide +kernel
theorem dX9_ask_110 : decode cX9_ask 110 = .ok (.iload 5, 2) := by decide +kernel
theorem dX9_ask_112 : decode cX9_ask 112 = .ok (.iload_n 3, 1) := by decide +kernel
theorem dX9_ask_113 : decode cX9_ask 113 = .ok (.if_icmp .ge 9, 3) := by decide +kernel
theorem dX9_ask_116 : decode cX9_ask 116 = .ok (.iload 5, 2) := by decide +kernel
theorem dX9_ask_118 : decode cX9_ask 118 = .ok (.istore_n 3, 1) := by decide +kernel
theorem dX9_ask_119 : decode cX9_ask 119 = .ok (.iload 4, 2) := by decide +kernel
theorem dX9_ask_121 : decode cX9_ask 121 = .ok (.istore_n 2, 1) := by decide +kernel
theorem dX9_ask_122 : decode cX9_ask 122 = .ok (.iinc 4 1, 3) := by decide +kernel
theorem dX9_ask_125 : decode cX9_ask 125 = .ok (.goto (-35), 3) := by decide +kernel
theorem dX9_ask_128 : decode cX9_ask 128 = .ok (.iload_n 2, 1) := by decide +kernel
theorem dX9_ask_129 : decode cX9_ask 129 = .ok (.ireturn, 1) := by decide +kernel
theorem dX9_swarm_0 : decode cX9_swarm 0 = .ok (.iload_n 1, 1) := by decide +kernel
theorem dX9_swarm_1 : decode cX9_swarm 1 = .ok (.bipush 16, 2) := by decide +kernel
theorem dX9_swarm_3 : decode cX9_swarm 3 = .ok (.invokestatic 104, 3) := by decide +kernel
theorem dX9_swarm_6 : decode cX9_swarm 6 = .ok (.ifCond .eq 19, 3) := by decide +kernel
theorem dX9_swarm_9 : decode cX9_swarm 9 = .ok (.aload_n 0, 1) := by decide +kernel
theorem dX9_swarm_10 : decode cX9_swarm 10 = .ok (.iload_n 2, 1) := by decide +kernel
theorem dX9_swarm_11 : decode cX9_swarm 11 = .ok (.invokevirtual 132, 3) := by decide +kernel
theorem dX9_swarm_14 : decode cX9_swarm 14 = .ok (.ifCond .eq 11, 3) := by decide +kernel
theorem dX9_swarm_17 : decode cX9_swarm 17 = .ok (.iload_n 3, 1) := by decide +kernel
theorem dX9_swarm_18 : decode cX9_swarm 18 = .ok (.iconst 1, 1) := by decide +kernel
theorem dX9_swarm_19 : decode cX9_swarm 19 = .ok (.invokestatic 104, 3) := by decide +kernel
theorem dX9_swarm_22 : decode cX9_swarm 22 = .ok (.ifCond .ne 7, 3) := by decide +kernel
theorem dX9_swarm_25 : decode cX9_swarm 25 = .ok (.ldc2_w 279, 3) := by decide +kernel
theorem dX9_swarm_28 : decode cX9_swarm 28 = .ok (.lreturn, 1) := by decide +kernel
theorem dX9_swarm_29 : decode cX9_swarm 29 = .ok (.aload_n 0, 1) := by decide +kernel
theorem dX9_swarm_30 : decode cX9_swarm 30 = .ok (.invokevirtual 281, 3) := by decide +kernel
theorem dX9_swarm_33 : decode cX9_swarm 33 = .ok (.lconst 0, 1) := by decide +kernel
theorem dX9_swarm_34 : decode cX9_swarm 34 = .ok (.lstore 4, 2) := by decide +kernel
theorem dX9_swarm_36 : decode cX9_swarm 36 = .ok (.iconst 0, 1) := by decide +kernel
theorem dX9_swarm_37 : decode cX9_swarm 37 = .ok (.istore 6, 2) := by decide +kernel
theorem dX9_swarm_39 : decode cX9_swarm 39 = .ok (.iload 6, 2) := by decide +kernel
theorem dX9_swarm_41 : decode cX9_swarm 41 = .ok (.iconst 1, 1) := by decide +kernel
theorem dX9_swarm_42 : decode cX9_swarm 42 = .ok (.aload_n 0, 1) := by decide +kernel
theorem dX9_swarm_43 : decode cX9_swarm 43 = .ok (.getfield 45, 3) := by decide +kernel
theorem dX9_swarm_46 : decode cX9_swarm 46 = .ok (.getfield 156, 3) := by decide +kernel
theorem dX9_swarm_49 : decode cX9_swarm 49 = .ok (.ishl, 1) := by decide +kernel
theorem dX9_swarm_50 : decode cX9_swarm 50 = .ok (.if_icmp .ge 32, 3) := by decide +kernel
theorem dX9_swarm_53 : decode cX9_swarm 53 = .ok (.aload_n 0, 1) := by decide +kernel
theorem dX9_swarm_54 : decode cX9_swarm 54 = .ok (.getfield 63, 3) := by decide +kernel
theorem dX9_swarm_57 : decode cX9_swarm 57 = .ok (.iload 6, 2) := by decide +kernel
theorem dX9_swarm_59 : decode cX9_swarm 59 = .ok (.iaload, 1) := by decide +kernel
theorem dX9_swarm_60 : decode cX9_swarm 60 = .ok (.iload_n 2, 1) := by decide +kernel
theorem dX9_swarm_61 : decode cX9_swarm 61 = .ok (.if_icmp .ne 15, 3) := by decide +kernel
theorem dX9_swarm_64 : decode cX9_swarm 64 = .ok (.lload 4, 2) := by decide +kernel
theorem dX9_swarm_66 : decode cX9_swarm 66 = .ok (.aload_n 0, 1) := by decide +kernel
theorem dX9_swarm_67 : decode cX9_swarm 67 = .ok (.iload 6, 2) := by decide +kernel
theorem dX9_swarm_69 : decode cX9_swarm 69 = .ok (.iload_n 1, 1) := by decide +kernel
theorem dX9_swarm_70 : decode cX9_swarm 70 = .ok (.invokevirtual 284, 3) := by decide +kernel
theorem dX9_swarm_73 : decode cX9_swarm 73 = .ok (.ladd, 1) := by decide +kernel
theorem dX9_swarm_74 : decode cX9_swarm 74 = .ok (.lstore 4, 2) := by decide +kernel
theorem dX9_swarm_76 : decode cX9_swarm 76 = .ok (.iinc 6 1, 3) := by decide +kernel
theorem dX9_swarm_79 : decode cX9_swarm 79 = .ok (.goto (-40), 3) := by decide +kernel
theorem dX9_swarm_82 : decode cX9_swarm 82 = .ok (.iconst 4, 1) := by decide +kernel
theorem dX9_swarm_83 : decode cX9_swarm 83 = .ok (.aload_n 0, 1) := by decide +kernel
theorem dX9_swarm_84 : decode cX9_swarm 84 = .ok (.getfield 45, 3) := by decide +kernel
theorem dX9_swarm_87 : decode cX9_swarm 87 = .ok (.getfield 156, 3) := by decide +kernel
theorem dX9_swarm_90 : decode cX9_swarm 90 = .ok (.imul, 1) := by decide +kernel
theorem dX9_swarm_91 : decode cX9_swarm 91 = .ok (.istore 6, 2) := by decide +kernel
theorem dX9_swarm_93 : decode cX9_swarm 93 = .ok (.iload 6, 2) := by decide +kernel
theorem dX9_swarm_95 : decode cX9_swarm 95 = .ok (.ifCond .le 28, 3) := by decide +kernel
theorem dX9_swarm_98 : decode cX9_swarm 98 = .ok (.lload 4, 2) := by decide +kernel
theorem dX9_swarm_100 : decode cX9_swarm 100 = .ok (.ldc2_w 288, 3) := by decide +kernel
theorem dX9_swarm_103 : decode cX9_swarm 103 = .ok (.lrem, 1) := by decide +kernel
theorem dX9_swarm_104 : decode cX9_swarm 104 = .ok (.lconst 0, 1) := by decide +kernel
theorem dX9_swarm_105 : decode cX9_swarm 105 = .ok (.lcmp, 1) := by decide +kernel
theorem dX9_swarm_106 : decode cX9_swarm 106 = .ok (.ifCond .ne 17, 3) := by decide +kernel
theorem dX9_swarm_109 : decode cX9_swarm 109 = .ok (.lload 4, 2) := by decide +kernel
theorem dX9_swarm_111 : decode cX9_swarm 111 = .ok (.ldc2_w 288, 3) := by decide +kernel
theorem dX9_swarm_114 : decode cX9_swarm 114 = .ok (.ldiv, 1) := by decide +kernel
theorem dX9_swarm_115 : decode cX9_swarm 115 = .ok (.lstore 4, 2) := by decide +kernel
theorem dX9_swarm_117 : decode cX9_swarm 117 = .ok (.iinc 6 (-1), 3) := by decide +kernel
theorem dX9_swarm_120 : decode cX9_swarm 120 = .ok (.goto (-27), 3) := by decide +kernel
theorem dX9_swarm_123 : decode cX9_swarm 123 = .ok (.iload_n 3, 1) := by decide +kernel
theorem dX9_swarm_124 : decode cX9_swarm 124 = .ok (.ifCond .ne 8, 3) := by decide +kernel
theorem dX9_swarm_127 : decode cX9_swarm 127 = .ok (.lload 4, 2) := by decide +kernel
theorem dX9_swarm_129 : decode cX9_swarm 129 = .ok (.goto 7, 3) := by decide +kernel
theorem dX9_swarm_132 : decode cX9_swarm 132 = .ok (.lconst 1, 1) := by decide +kernel
theorem dX9_swarm_133 : decode cX9_swarm 133 = .ok (.iload 6, 2) := by decide +kernel
theorem dX9_swarm_135 : decode cX9_swarm 135 = .ok (.lshl, 1) := by decide +kernel
theorem dX9_swarm_136 : decode cX9_swarm 136 = .ok (.lreturn, 1) := by decide +kernel
theorem dX9_again_0 : decode cX9_again 0 = .ok (.iload_n 2, 1) := by decide +kernel
theorem dX9_again_1 : decode cX9_again 1 = .ok (.iconst 1, 1) := by decide +kernel
theorem dX9_again_2 : decode cX9_again 2 = .ok (.if_icmp .lt 17, 3) := by decide +kernel
theorem dX9_again_5 : decode cX9_again 5 = .ok (.iload_n 2, 1) := by decide +kernel
theorem dX9_again_6 : decode cX9_again 6 = .ok (.bipush 20, 2) := by decide +kernel
theorem dX9_again_8 : decode cX9_again 8 = .ok (.if_icmp .gt 11, 3) := by decide +kernel
theorem dX9_again_11 : decode cX9_again 11 = .ok (.iload_n 3, 1) := by decide +kernel
theorem dX9_again_12 : decode cX9_again 12 = .ok (.iconst 1, 1) := by decide +kernel
theorem dX9_again_13 : decode cX9_again 13 = .ok (.invokestatic 104, 3) := by decide +kernel
theorem dX9_again_16 : decode cX9_again 16 = .ok (.ifCond .ne 6, 3) := by decide +kernel
theorem dX9_again_19 : decode cX9_again 19 = .ok (.bipush (-2), 2) := by decide +kernel
theorem dX9_again_21 : decode cX9_again 21 = .ok (.ireturn, 1) := by decide +kernel
theorem dX9_again_22 : decode cX9_again 22 = .ok (.aload_n 0, 1) := by decide +kernel
theorem dX9_again_23 : decode cX9_again 23 = .ok (.getfield 38, 3) := by decide +kernel
theorem dX9_again_26 : decode cX9_again 26 = .ok (.aload_n 0, 1) := by decide +kernel
theorem dX9_again_27 : decode cX9_again 27 = .ok (.getfield 24, 3) := by decide +kernel
theorem dX9_again_30 : decode cX9_again 30 = .ok (.invokevirtual 220, 3) := by decide +kernel
theorem dX9_again_33 : decode cX9_again 33 = .ok (.aload_n 0, 1) := by decide +kernel
theorem dX9_again_34 : decode cX9_again 34 = .ok (.getfield 38, 3) := by decide +kernel
theorem dX9_again_37 : decode cX9_again 37 = .ok (.getfield 224, 3) := by decide +kernel
theorem dX9_again_40 : decode cX9_again 40 = .ok (.iload_n 1, 1) := by decide +kernel
theorem dX9_again_41 : decode cX9_again 41 = .ok (.iload_n 2, 1) := by decide +kernel
theorem dX9_again_42 : decode cX9_again 42 = .ok (.invokevirtual 290, 3) := by decide +kernel
theorem dX9_again_45 : decode cX9_again 45 = .ok (.aload_n 0, 1) := by decide +kernel
theorem dX9_again_46 : decode cX9_again 46 = .ok (.getfield 38, 3) := by decide +kernel
theorem dX9_again_49 : decode cX9_again 49 = .ok (.invokevirtual 225, 3) := by decide +kernel
theorem dX9_again_52 : decode cX9_again 52 = .ok (.iload_n 3, 1) := by decide +kernel
theorem dX9_again_53 : decode cX9_again 53 = .ok (.ifCond .ne 16, 3) := by decide +kernel
theorem dX9_again_56 : decode cX9_again 56 = .ok (.aload_n 0, 1) := by decide +kernel
theorem dX9_again_57 : decode cX9_again 57 = .ok (.getfield 38, 3) := by decide +kernel
theorem dX9_again_60 : decode cX9_again 60 = .ok (.getfield 228, 3) := by decide +kernel
theorem dX9_again_63 : decode cX9_again 63 = .ok (.invokevirtual 208, 3) := by decide +kernel
theorem dX9_again_66 : decode cX9_again 66 = .ok (.goto 13, 3) := by decide +kernel
theorem dX9_again_69 : decode cX9_again 69 = .ok (.aload_n 0, 1) := by decide +kernel
theorem dX9_again_70 : decode cX9_again 70 = .ok (.getfield 38, 3) := by decide +kernel
theorem dX9_again_73 : decode cX9_again 73 = .ok (.getfield 228, 3) := by decide +kernel
theorem dX9_again_76 : decode cX9_again 76 = .ok (.getfield 293, 3) := by decide +kernel
theorem dX9_again_79 : decode cX9_again 79 = .ok (.ireturn, 1) := by decide +kernel
theorem dX9_sheet_0 : decode cX9_sheet 0 = .ok (.iload_n 1, 1) := by decide +kernel
theorem dX9_sheet_1 : decode cX9_sheet 1 = .ok (.invokestatic 161, 3) := by decide +kernel
theorem dX9_sheet_4 : decode cX9_sheet 4 = .ok (.ifCond .eq 16, 3) := by decide +kernel
theorem dX9_sheet_7 : decode cX9_sheet 7 = .ok (.iload_n 2, 1) := by decide +kernel
theorem dX9_sheet_8 : decode cX9_sheet 8 = .ok (.invokestatic 296, 3) := by decide +kernel
theorem dX9_sheet_11 : decode cX9_sheet 11 = .ok (.ifCond .eq 9, 3) := by decide +kernel
theorem dX9_sheet_14 : decode cX9_sheet 14 = .ok (.iload_n 3, 1) := by decide +kernel
theorem dX9_sheet_15 : decode cX9_sheet 15 = .ok (.bipush 60, 2) := by decide +kernel
theorem dX9_sheet_17 : decode cX9_sheet 17 = .ok (.if_icmp .le 6, 3) := by decide +kernel
theorem dX9_sheet_20 : decode cX9_sheet 20 = .ok (.bipush (-2), 2) := by decide +kernel
theorem dX9_sheet_22 : decode cX9_sheet 22 = .ok (.ireturn, 1) := by decide +kernel
theorem dX9_sheet_23 : decode cX9_sheet 23 = .ok (.iload_n 3, 1) := by decide +kernel
theorem dX9_sheet_24 : decode cX9_sheet 24 = .ok (.ifCond .ge 9, 3) := by decide +kernel
theorem dX9_sheet_27 : decode cX9_sheet 27 = .ok (.aload_n 0, 1) := by decide +kernel
theorem dX9_sheet_28 : decode cX9_sheet 28 = .ok (.iconst 5, 1) := by decide +kernel
theorem dX9_sheet_29 : decode cX9_sheet 29 = .ok (.invokevirtual 167, 3) := by decide +kernel
theorem dX9_sheet_32 : decode cX9_sheet 32 = .ok (.ireturn, 1) := by decide +kernel
theorem dX9_sheet_33 : decode cX9_sheet 33 = .ok (.aload_n 0, 1) := by decide +kernel
theorem dX9_sheet_34 : decode cX9_sheet 34 = .ok (.getfield 72, 3) := by decide +kernel
theorem dX9_sheet_37 : decode cX9_sheet 37 = .ok (.iload_n 1, 1) := by decide +kernel
theorem dX9_sheet_38 : decode cX9_sheet 38 = .ok (.aaload, 1) := by decide +kernel
theorem dX9_sheet_39 : decode cX9_sheet 39 = .ok (.iload_n 2, 1) := by decide +kernel
theorem dX9_sheet_40 : decode cX9_sheet 40 = .ok (.iload_n 3, 1) := by decide +kernel
theorem dX9_sheet_41 : decode cX9_sheet 41 = .ok (.invokevirtual 299, 3) := by decide +kernel
theorem dX9_sheet_44 : decode cX9_sheet 44 = .ok (.iload_n 3, 1) := by decide +kernel
theorem dX9_sheet_45 : decode cX9_sheet 45 = .ok (.ireturn, 1) := by decide +kernel
theorem dX9_lose_0 : decode cX9_lose 0 = .ok (.iload_n 1, 1) := by decide +kernel
theorem dX9_lose_1 : decode cX9_lose 1 = .ok (.invokestatic 161, 3) := by decide +kernel
theorem dX9_lose_4 : decode cX9_lose 4 = .ok (.ifCond .ne 6, 3) := by decide +kernel
theorem dX9_lose_7 : decode cX9_lose 7 = .ok (.bipush (-2), 2) := by decide +kernel
theorem dX9_lose_9 : decode cX9_lose 9 = .ok (.ireturn, 1) := by decide +kernel
theorem dX9_lose_10 : decode cX9_lose 10 = .ok (.aload_n 0, 1) := by decide +kernel
theorem dX9_lose_11 : decode cX9_lose 11 = .ok (.getfield 72, 3) := by decide +kernel
theorem dX9_lose_14 : decode cX9_lose 14 = .ok (.iload_n 1, 1) := by decide +kernel
theorem dX9_lose_15 : decode cX9_lose 15 = .ok (.aaload, 1) := by decide +kernel
theorem dX9_lose_16 : decode cX9_lose 16 = .ok (.getfield 164, 3) := by decide +kernel
theorem dX9_lose_19 : decode cX9_lose 19 = .ok (.ifCond .eq 9, 3) := by decide +kernel
theorem dX9_lose_22 : decode cX9_lose 22 = .ok (.aload_n 0, 1) := by decide +kernel
theorem dX9_lose_23 : decode cX9_lose 23 = .ok (.iconst 1, 1) := by decide +kernel
theorem dX9_lose_24 : decode cX9_lose 24 = .ok (.invokevirtual 167, 3) := by decide +kernel
theorem dX9_lose_27 : decode cX9_lose 27 = .ok (.ireturn, 1) := by decide +kernel
theorem dX9_lose_28 : decode cX9_lose 28 = .ok (.aload_n 0, 1) := by decide +kernel
theorem dX9_lose_29 : decode cX9_lose 29 = .ok (.getfield 72, 3) := by decide +kernel
theorem dX9_lose_32 : decode cX9_lose 32 = .ok (.iload_n 1, 1) := by decide +kernel
theorem dX9_lose_33 : decode cX9_lose 33 = .ok (.aaload, 1) := by decide +kernel
theorem dX9_lose_34 : decode cX9_lose 34 = .ok (.iconst 1, 1) := by decide +kernel
theorem dX9_lose_35 : decode cX9_lose 35 = .ok (.putfield 164, 3) := by decide +kernel
theorem dX9_lose_38 : decode cX9_lose 38 = .ok (.aload_n 0, 1) := by decide +kernel
theorem dX9_lose_39 : decode cX9_lose 39 = .ok (.getfield 72, 3) := by decide +kernel
theorem dX9_lose_42 : decode cX9_lose 42 = .ok (.iload_n 1, 1) := by decide +kernel
theorem dX9_lose_43 : decode cX9_lose 43 = .ok (.aaload, 1) := by decide +kernel
theorem dX9_lose_44 : decode cX9_lose 44 = .ok (.getfield 171, 3) := by decide +kernel
theorem dX9_lose_47 : decode cX9_lose 47 = .ok (.ireturn, 1) := by decide +kernel
theorem dX9_put_0 : decode cX9_put 0 = .ok (.iload_n 1, 1) := by decide +kernel
theorem dX9_put_1 : decode cX9_put 1 = .ok (.invokestatic 161, 3) := by decide +kernel
theorem dX9_put_4 : decode cX9_put 4 = .ok (.ifCond .eq 10, 3) := by decide +kernel
theorem dX9_put_7 : decode cX9_put 7 = .ok (.iload_n 2, 1) := by decide +kernel
theorem dX9_put_8 : decode cX9_put 8 = .ok (.invokestatic 296, 3) := by decide +kernel
theorem dX9_put_11 : decode cX9_put 11 = .ok (.ifCond .ne 6, 3) := by decide +kernel
theorem dX9_put_14 : decode cX9_put 14 = .ok (.bipush (-2), 2) := by decide +kernel
theorem dX9_put_16 : decode cX9_put 16 = .ok (.ireturn, 1) := by decide +kernel
theorem dX9_put_17 : decode cX9_put 17 = .ok (.aload_n 0, 1) := by decide +kernel
theorem dX9_put_18 : decode cX9_put 18 = .ok (.getfield 72, 3) := by decide +kernel
theorem dX9_put_21 : decode cX9_put 21 = .ok (.iload_n 1, 1) := by decide +kernel
theorem dX9_put_22 : decode cX9_put 22 = .ok (.aaload, 1) := by decide +kernel
theorem dX9_put_23 : decode cX9_put 23 = .ok (.iload_n 2, 1) := by decide +kernel
theorem dX9_put_24 : decode cX9_put 24 = .ok (.iload_n 3, 1) := by decide +kernel
theorem dX9_put_25 : decode cX9_put 25 = .ok (.invokevirtual 302, 3) := by decide +kernel
theorem dX9_put_28 : decode cX9_put 28 = .ok (.istore 5, 2) := by decide +kernel
theorem dX9_put_30 : decode cX9_put 30 = .ok (.iload 5, 2) := by decide +kernel
theorem dX9_put_32 : decode cX9_put 32 = .ok (.ifCond .eq 10, 3) := by decide +kernel
theorem dX9_put_35 : decode cX9_put 35 = .ok (.aload_n 0, 1) := by decide +kernel
theorem dX9_put_36 : decode cX9_put 36 = .ok (.iload 5, 2) := by decide +kernel
theorem dX9_put_38 : decode cX9_put 38 = .ok (.invokevirtual 167, 3) := by decide +kernel
theorem dX9_put_41 : decode cX9_put 41 = .ok (.ireturn, 1) := by decide +kernel
theorem dX9_put_42 : decode cX9_put 42 = .ok (.aload_n 0, 1) := by decide +kernel
theorem dX9_put_43 : decode cX9_put 43 = .ok (.getfield 72, 3) := by decide +kernel
theorem dX9_put_46 : decode cX9_put 46 = .ok (.iload_n 1, 1) := by decide +kernel
theorem dX9_put_47 : decode cX9_put 47 = .ok (.aaload, 1) := by decide +kernel
theorem dX9_put_48 : decode cX9_put 48 = .ok (.iload_n 3, 1) := by decide +kernel
theorem dX9_put_49 : decode cX9_put 49 = .ok (.iload 4, 2) := by decide +kernel
theorem dX9_put_51 : decode cX9_put 51 = .ok (.invokevirtual 306, 3) := by decide +kernel
theorem dX9_put_54 : decode cX9_put 54 = .ok (.iconst 1, 1) := by decide +kernel
theorem dX9_put_55 : decode cX9_put 55 = .ok (.ireturn, 1) := by decide +kernel
theorem dX9_get_0 : decode cX9_get 0 = .ok (.iload_n 1, 1) := by decide +kernel
theorem dX9_get_1 : decode cX9_get 1 = .ok (.invokestatic 161, 3) := by decide +kernel
theorem dX9_get_4 : decode cX9_get 4 = .ok (.ifCond .eq 10, 3) := by decide +kernel
theorem dX9_get_7 : decode cX9_get 7 = .ok (.iload_n 2, 1) := by decide +kernel
theorem dX9_get_8 : decode cX9_get 8 = .ok (.invokestatic 296, 3) := by decide +kernel
theorem dX9_get_11 : decode cX9_get 11 = .ok (.ifCond .ne 7, 3) := by decide +kernel
theorem dX9_get_14 : decode cX9_get 14 = .ok (.ldc_w 309, 3) := by decide +kernel
theorem dX9_get_17 : decode cX9_get 17 = .ok (.ireturn, 1) := by decide +kernel
theorem dX9_get_18 : decode cX9_get 18 = .ok (.aload_n 0, 1) := by decide +kernel
theorem dX9_get_19 : decode cX9_get 19 = .ok (.getfield 72, 3) := by decide +kernel
theorem dX9_get_22 : decode cX9_get 22 = .ok (.iload_n 1, 1) := by decide +kernel
theorem dX9_get_23 : decode cX9_get 23 = .ok (.aaload, 1) := by decide +kernel
theorem dX9_get_24 : decode cX9_get 24 = .ok (.iload_n 2, 1) := by decide +kernel
theorem dX9_get_25 : decode cX9_get 25 = .ok (.iload_n 3, 1) := by decide +kernel
theorem dX9_get_26 : decode cX9_get 26 = .ok (.invokevirtual 302, 3) := by decide +kernel
theorem dX9_get_29 : decode cX9_get 29 = .ok (.istore 4, 2) := by decide +kernel
theorem dX9_get_31 : decode cX9_get 31 = .ok (.iload 4, 2) := by decide +kernel
theorem dX9_get_33 : decode cX9_get 33 = .ok (.ifCond .eq 13, 3) := by decide +kernel
theorem dX9_get_36 : decode cX9_get 36 = .ok (.aload_n 0, 1) := by decide +kernel
theorem dX9_get_37 : decode cX9_get 37 = .ok (.iload 4, 2) := by decide +kernel
theorem dX9_get_39 : decode cX9_get 39 = .ok (.putfield 83, 3) := by decide +kernel
theorem dX9_get_42 : decode cX9_get 42 = .ok (.ldc_w 309, 3) := by decide +kernel
theorem dX9_get_45 : decode cX9_get 45 = .ok (.ireturn, 1) := by decide +kernel
theorem dX9_get_46 : decode cX9_get 46 = .ok (.aload_n 0, 1) := by decide +kernel
theorem dX9_get_47 : decode cX9_get 47 = .ok (.getfield 72, 3) := by decide +kernel
theorem dX9_get_50 : decode cX9_get 50 = .ok (.iload_n 1, 1) := by decide +kernel
theorem dX9_get_51 : decode cX9_get 51 = .ok (.aaload, 1) := by decide +kernel
theorem dX9_get_52 : decode cX9_get 52 = .ok (.getfield 172, 3) := by decide +kernel
theorem dX9_get_55 : decode cX9_get 55 = .ok (.iload_n 3, 1) := by decide +kernel
theorem dX9_get_56 : decode cX9_get 56 = .ok (.iaload, 1) := by decide +kernel
theorem dX9_get_57 : decode cX9_get 57 = .ok (.ireturn, 1) := by decide +kernel
theorem dX9_copy_0 : decode cX9_copy 0 = .ok (.iload_n 1, 1) := by decide +kernel
theorem dX9_copy_1 : decode cX9_copy 1 = .ok (.invokestatic 161, 3) := by decide +kernel
theorem dX9_copy_4 : decode cX9_copy 4 = .ok (.ifCond .eq 10, 3) := by decide +kernel
theorem dX9_copy_7 : decode cX9_copy 7 = .ok (.iload_n 3, 1) := by decide +kernel
theorem dX9_copy_8 : decode cX9_copy 8 = .ok (.invokestatic 161, 3) := by decide +kernel
theorem dX9_copy_11 : decode cX9_copy 11 = .ok (.ifCond .ne 6, 3) := by decide +kernel
theorem dX9_copy_14 : decode cX9_copy 14 = .ok (.bipush (-2), 2) := by decide +kernel
theorem dX9_copy_16 : decode cX9_copy 16 = .ok (.ireturn, 1) := by decide +kernel
theorem dX9_copy_17 : decode cX9_copy 17 = .ok (.aload_n 0, 1) := by decide +kernel
theorem dX9_copy_18 : decode cX9_copy 18 = .ok (.getfield 72, 3) := by decide +kernel
theorem dX9_copy_21 : decode cX9_copy 21 = .ok (.iload_n 1, 1) := by decide +kernel
theorem dX9_copy_22 : decode cX9_copy 22 = .ok (.aaload, 1) := by decide +kernel
theorem dX9_copy_23 : decode cX9_copy 23 = .ok (.astore 6, 2) := by decide +kernel
theorem dX9_copy_25 : decode cX9_copy 25 = .ok (.aload_n 0, 1) := by decide +kernel
theorem dX9_copy_26 : decode cX9_copy 26 = .ok (.getfield 72, 3) := by decide +kernel
theorem dX9_copy_29 : decode cX9_copy 29 = .ok (.iload_n 3, 1) := by decide +kernel
theorem dX9_copy_30 : decode cX9_copy 30 = .ok (.aaload, 1) := by decide +kernel
theorem dX9_copy_31 : decode cX9_copy 31 = .ok (.astore 7, 2) := by decide +kernel
theorem dX9_copy_33 : decode cX9_copy 33 = .ok (.aload 6, 2) := by decide +kernel
theorem dX9_copy_35 : decode cX9_copy 35 = .ok (.getfield 164, 3) := by decide +kernel
theorem dX9_copy_38 : decode cX9_copy 38 = .ok (.ifCond .ne 11, 3) := by decide +kernel
theorem dX9_copy_41 : decode cX9_copy 41 = .ok (.aload 7, 2) := by decide +kernel
theorem dX9_copy_43 : decode cX9_copy 43 = .ok (.getfield 164, 3) := by decide +kernel
theorem dX9_copy_46 : decode cX9_copy 46 = .ok (.ifCond .eq 9, 3) := by decide +kernel
theorem dX9_copy_49 : decode cX9_copy 49 = .ok (.aload_n 0, 1) := by decide +kernel
theorem dX9_copy_50 : decode cX9_copy 50 = .ok (.iconst 1, 1) := by decide +kernel
theorem dX9_copy_51 : decode cX9_copy 51 = .ok (.invokevirtual 167, 3) := by decide +kernel
theorem dX9_copy_54 : decode cX9_copy 54 = .ok (.ireturn, 1) := by decide +kernel
theorem dX9_copy_55 : decode cX9_copy 55 = .ok (.aload 6, 2) := by decide +kernel
theorem dX9_copy_57 : decode cX9_copy 57 = .ok (.getfield 310, 3) := by decide +kernel
theorem dX9_copy_60 : decode cX9_copy 60 = .ok (.aload 7, 2) := by decide +kernel
theorem dX9_copy_62 : decode cX9_copy 62 = .ok (.getfield 310, 3) := by decide +kernel
theorem dX9_copy_65 : decode cX9_copy 65 = .ok (.if_icmp .eq 9, 3) := by decide +kernel
theorem dX9_copy_68 : decode cX9_copy 68 = .ok (.aload_n 0, 1) := by decide +kernel
theorem dX9_copy_69 : decode cX9_copy 69 = .ok (.iconst 4, 1) := by decide +kernel
theorem dX9_copy_70 : decode cX9_copy 70 = .ok (.invokevirtual 167, 3) := by decide +kernel
theorem dX9_copy_73 : decode cX9_copy 73 = .ok (.ireturn, 1) := by decide +kernel
theorem dX9_copy_74 : decode cX9_copy 74 = .ok (.aload 6, 2) := by decide +kernel
theorem dX9_copy_76 : decode cX9_copy 76 = .ok (.iload_n 2, 1) := by decide +kernel
theorem dX9_copy_77 : decode cX9_copy 77 = .ok (.iload 5, 2) := by decide +kernel
theorem dX9_copy_79 : decode cX9_copy 79 = .ok (.invokevirtual 313, 3) := by decide +kernel
theorem dX9_copy_82 : decode cX9_copy 82 = .ok (.ifCond .eq 15, 3) := by decide +kernel
theorem dX9_copy_85 : decode cX9_copy 85 = .ok (.aload 7, 2) := by decide +kernel
theorem dX9_copy_87 : decode cX9_copy 87 = .ok (.iload 4, 2) := by decide +kernel
theorem dX9_copy_89 : decode cX9_copy 89 = .ok (.iload 5, 2) := by decide +kernel
theorem dX9_copy_91 : decode cX9_copy 91 = .ok (.invokevirtual 313, 3) := by decide +kernel
theorem dX9_copy_94 : decode cX9_copy 94 = .ok (.ifCond .ne 9, 3) := by decide +kernel
theorem dX9_copy_97 : decode cX9_copy 97 = .ok (.aload_n 0, 1) := by decide +kernel
theorem dX9_copy_98 : decode cX9_copy 98 = .ok (.iconst 2, 1) := by decide +kernel
theorem dX9_copy_99 : decode cX9_copy 99 = .ok (.invokevirtual 167, 3) := by decide +kernel
theorem dX9_copy_102 : decode cX9_copy 102 = .ok (.ireturn, 1) := by decide +kernel
theorem dX9_copy_103 : decode cX9_copy 103 = .ok (.aload 6, 2) := by decide +kernel
theorem dX9_copy_105 : decode cX9_copy 105 = .ok (.getfield 172, 3) := by decide +kernel
theorem dX9_copy_108 : decode cX9_copy 108 = .ok (.iload_n 2, 1) := by decide +kernel
theorem dX9_copy_109 : decode cX9_copy 109 = .ok (.aload 7, 2) := by decide +kernel
theorem dX9_copy_111 : decode cX9_copy 111 = .ok (.getfield 172, 3) := by decide +kernel
theorem dX9_copy_114 : decode cX9_copy 114 = .ok (.iload 4, 2) := by decide +kernel
theorem dX9_copy_116 : decode cX9_copy 116 = .ok (.iload 5, 2) := by decide +kernel
theorem dX9_copy_118 : decode cX9_copy 118 = .ok (.invokestatic 94, 3) := by decide +kernel
theorem dX9_copy_121 : decode cX9_copy 121 = .ok (.iconst 1, 1) := by decide +kernel
theorem dX9_copy_122 : decode cX9_copy 122 = .ok (.ireturn, 1) := by decide +kernel
theorem dX9_write_0 : decode cX9_write 0 = .ok (.iload_n 1, 1) := by decide +kernel
theorem dX9_write_1 : decode cX9_write 1 = .ok (.aload_n 0, 1) := by decide +kernel
theorem dX9_write_2 : decode cX9_write 2 = .ok (.getfield 24, 3) := by decide +kernel
theorem dX9_write_5 : decode cX9_write 5 = .ok (.getfield 144, 3) := by decide +kernel
theorem dX9_write_8 : decode cX9_write 8 = .ok (.invokestatic 104, 3) := by decide +kernel
theorem dX9_write_11 : decode cX9_write 11 = .ok (.ifCond .eq 10, 3) := by decide +kernel
theorem dX9_write_14 : decode cX9_write 14 = .ok (.iload_n 2, 1) := by decide +kernel
theorem dX9_write_15 : decode cX9_write 15 = .ok (.invokestatic 161, 3) := by decide +kernel
theorem dX9_write_18 : decode cX9_write 18 = .ok (.ifCond .ne 6, 3) := by decide +kernel
theorem dX9_write_21 : decode cX9_write 21 = .ok (.bipush (-2), 2) := by decide +kernel
theorem dX9_write_23 : decode cX9_write 23 = .ok (.ireturn, 1) := by decide +kernel
theorem dX9_write_24 : decode cX9_write 24 = .ok (.aload_n 0, 1) := by decide +kernel
theorem dX9_write_25 : decode cX9_write 25 = .ok (.getfield 72, 3) := by decide +kernel
theorem dX9_write_28 : decode cX9_write 28 = .ok (.iload_n 2, 1) := by decide +kernel
theorem dX9_write_29 : decode cX9_write 29 = .ok (.aaload, 1) := by decide +kernel
theorem dX9_write_30 : decode cX9_write 30 = .ok (.astore_n 3, 1) := by decide +kernel
theorem dX9_write_31 : decode cX9_write 31 = .ok (.aload_n 3, 1) := by decide +kernel
theorem dX9_write_32 : decode cX9_write 32 = .ok (.getfield 164, 3) := by decide +kernel
theorem dX9_write_35 : decode cX9_write 35 = .ok (.ifCond .eq 9, 3) := by decide +kernel
theorem dX9_write_38 : decode cX9_write 38 = .ok (.aload_n 0, 1) := by decide +kernel
theorem dX9_write_39 : decode cX9_write 39 = .ok (.iconst 1, 1) := by decide +kernel
theorem dX9_write_40 : decode cX9_write 40 = .ok (.invokevirtual 167, 3) := by decide +kernel
theorem dX9_write_43 : decode cX9_write 43 = .ok (.ireturn, 1) := by decide +kernel
theorem dX9_write_44 : decode cX9_write 44 = .ok (.aload_n 3, 1) := by decide +kernel
theorem dX9_write_45 : decode cX9_write 45 = .ok (.getfield 171, 3) := by decide +kernel
theorem dX9_write_48 : decode cX9_write 48 = .ok (.aload_n 0, 1) := by decide +kernel
theorem dX9_write_49 : decode cX9_write 49 = .ok (.getfield 24, 3) := by decide +kernel
theorem dX9_write_52 : decode cX9_write 52 = .ok (.getfield 232, 3) := by decide +kernel
theorem dX9_write_55 : decode cX9_write 55 = .ok (.invokestatic 316, 3) := by decide +kernel
theorem dX9_write_58 : decode cX9_write 58 = .ok (.istore 4, 2) := by decide +kernel
theorem dX9_write_60 : decode cX9_write 60 = .ok (.iconst 0, 1) := by decide +kernel
theorem dX9_write_61 : decode cX9_write 61 = .ok (.istore 5, 2) := by decide +kernel
theorem dX9_write_63 : decode cX9_write 63 = .ok (.iload 5, 2) := by decide +kernel
theorem dX9_write_65 : decode cX9_write 65 = .ok (.iload 4, 2) := by decide +kernel
theorem dX9_write_67 : decode cX9_write 67 = .ok (.if_icmp .ge 30, 3) := by decide +kernel
theorem dX9_write_70 : decode cX9_write 70 = .ok (.aload_n 3, 1) := by decide +kernel
theorem dX9_write_71 : decode cX9_write 71 = .ok (.iload 5, 2) := by decide +kernel
theorem dX9_write_73 : decode cX9_write 73 = .ok (.aload_n 0, 1) := by decide +kernel
theorem dX9_write_74 : decode cX9_write 74 = .ok (.getfield 31, 3) := by decide +kernel
theorem dX9_write_77 : decode cX9_write 77 = .ok (.getfield 190, 3) := by decide +kernel
theorem dX9_write_80 : decode cX9_write 80 = .ok (.iload_n 1, 1) := by decide +kernel
theorem dX9_write_81 : decode cX9_write 81 = .ok (.bipush 8, 2) := by decide +kernel
theorem dX9_write_83 : decode cX9_write 83 = .ok (.imul, 1) := by decide +kernel
theorem dX9_write_84 : decode cX9_write 84 = .ok (.iload 5, 2) := by decide +kernel
theorem dX9_write_86 : decode cX9_write 86 = .ok (.iadd, 1) := by decide +kernel
theorem dX9_write_87 : decode cX9_write 87 = .ok (.iaload, 1) := by decide +kernel
theorem dX9_write_88 : decode cX9_write 88 = .ok (.invokevirtual 306, 3) := by decide +kernel
theorem dX9_write_91 : decode cX9_write 91 = .ok (.iinc 5 1, 3) := by decide +kernel
theorem dX9_write_94 : decode cX9_write 94 = .ok (.goto (-31), 3) := by decide +kernel
theorem dX9_write_97 : decode cX9_write 97 = .ok (.iload 4, 2) := by decide +kernel
theorem dX9_write_99 : decode cX9_write 99 = .ok (.ireturn, 1) := by decide +kernel
theorem dX9_count_0 : decode cX9_count 0 = .ok (.iload_n 1, 1) := by decide +kernel
theorem dX9_count_1 : decode cX9_count 1 = .ok (.tableswitch 126 0 8 #[51, 59, 67, 75, 83, 91, 102, 113, 121], 51) := by decide +kernel
theorem dX9_count_52 : decode cX9_count 52 = .ok (.aload_n 0, 1) := by decide +kernel
theorem dX9_count_53 : decode cX9_count 53 = .ok (.getfield 24, 3) := by decide +kernel
theorem dX9_count_56 : decode cX9_count 56 = .ok (.getfield 232, 3) := by decide +kernel
theorem dX9_count_59 : decode cX9_count 59 = .ok (.ireturn, 1) := by decide +kernel
theorem dX9_count_60 : decode cX9_count 60 = .ok (.aload_n 0, 1) := by decide +kernel
theorem dX9_count_61 : decode cX9_count 61 = .ok (.getfield 24, 3) := by decide +kernel
theorem dX9_count_64 : decode cX9_count 64 = .ok (.getfield 144, 3) := by decide +kernel
theorem dX9_count_67 : decode cX9_count 67 = .ok (.ireturn, 1) := by decide +kernel
theorem dX9_count_68 : decode cX9_count 68 = .ok (.aload_n 0, 1) := by decide +kernel
theorem dX9_count_69 : decode cX9_count 69 = .ok (.getfield 14, 3) := by decide +kernel
theorem dX9_count_72 : decode cX9_count 72 = .ok (.getfield 122, 3) := by decide +kernel
theorem dX9_count_75 : decode cX9_count 75 = .ok (.ireturn, 1) := by decide +kernel
theorem dX9_count_76 : decode cX9_count 76 = .ok (.aload_n 0, 1) := by decide +kernel
theorem dX9_count_77 : decode cX9_count 77 = .ok (.getfield 18, 3) := by decide +kernel
theorem dX9_count_80 : decode cX9_count 80 = .ok (.getfield 122, 3) := by decide +kernel
theorem dX9_count_83 : decode cX9_count 83 = .ok (.ireturn, 1) := by decide +kernel
theorem dX9_count_84 : decode cX9_count 84 = .ok (.aload_n 0, 1) := by decide +kernel
theorem dX9_count_85 : decode cX9_count 85 = .ok (.getfield 45, 3) := by decide +kernel
theorem dX9_count_88 : decode cX9_count 88 = .ok (.getfield 156, 3) := by decide +kernel
theorem dX9_count_91 : decode cX9_count 91 = .ok (.ireturn, 1) := by decide +kernel
theorem dX9_count_92 : decode cX9_count 92 = .ok (.aload_n 0, 1) := by decide +kernel
theorem dX9_count_93 : decode cX9_count 93 = .ok (.getfield 31, 3) := by decide +kernel
theorem dX9_count_96 : decode cX9_count 96 = .ok (.getfield 199, 3) := by decide +kernel
theorem dX9_count_99 : decode cX9_count 99 = .ok (.getfield 293, 3) := by decide +kernel
theorem dX9_count_102 : decode cX9_count 102 = .ok (.ireturn, 1) := by decide +kernel
theorem dX9_count_103 : decode cX9_count 103 = .ok (.aload_n 0, 1) := by decide +kernel
theorem dX9_count_104 : decode cX9_count 104 = .ok (.getfield 31, 3) := by decide +kernel
theorem dX9_count_107 : decode cX9_count 107 = .ok (.getfield 199, 3) := by decide +kernel
theorem dX9_count_110 : decode cX9_count 110 = .ok (.invokevirtual 321, 3) := by decide +kernel
theorem dX9_count_113 : decode cX9_count 113 = .ok (.ireturn, 1) := by decide +kernel
theorem dX9_count_114 : decode cX9_count 114 = .ok (.aload_n 0, 1) := by decide +kernel
theorem dX9_count_115 : decode cX9_count 115 = .ok (.getfield 52, 3) := by decide +kernel
theorem dX9_count_118 : decode cX9_count 118 = .ok (.getfield 253, 3) := by decide +kernel
theorem dX9_count_121 : decode cX9_count 121 = .ok (.ireturn, 1) := by decide +kernel
theorem dX9_count_122 : decode cX9_count 122 = .ok (.aload_n 0, 1) := by decide +kernel
theorem dX9_count_123 : decode cX9_count 123 = .ok (.getfield 83, 3) := by decide +kernel
theorem dX9_count_126 : decode cX9_count 126 = .ok (.ireturn, 1) := by decide +kernel
theorem dX9_count_127 : decode cX9_count 127 = .ok (.bipush (-2), 2) := by decide +kernel
theorem dX9_count_129 : decode cX9_count 129 = .ok (.ireturn, 1) := by decide +kernel
theorem dX9_digest_0 : decode cX9_digest 0 = .ok (.ldc2_w 324, 3) := by decide +kernel
theorem dX9_digest_3 : decode cX9_digest 3 = .ok (.lstore_n 1, 1) := by decide +kernel
theorem dX9_digest_4 : decode cX9_digest 4 = .ok (.iconst 0, 1) := by decide +kernel
theorem dX9_digest_5 : decode cX9_digest 5 = .ok (.istore_n 3, 1) := by decide +kernel
theorem dX9_digest_6 : decode cX9_digest 6 = .ok (.iload_n 3, 1) := by decide +kernel
theorem dX9_digest_7 : decode cX9_digest 7 = .ok (.bipush 7, 2) := by decide +kernel
theorem dX9_digest_9 : decode cX9_digest 9 = .ok (.if_icmp .gt 20, 3) := by decide +kernel
theorem dX9_digest_12 : decode cX9_digest 12 = .ok (.lload_n 1, 1) := by decide +kernel
theorem dX9_digest_13 : decode cX9_digest 13 = .ok (.aload_n 0, 1) := by decide +kernel
theorem dX9_digest_14 : decode cX9_digest 14 = .ok (.iload_n 3, 1) := by decide +kernel
theorem dX9_digest_15 : decode cX9_digest 15 = .ok (.invokevirtual 326, 3) := by decide +kernel
theorem dX9_digest_18 : decode cX9_digest 18 = .ok (.i2l, 1) := by decide +kernel
theorem dX9_digest_19 : decode cX9_digest 19 = .ok (.invokestatic 329, 3) := by decide +kernel
theorem dX9_digest_22 : decode cX9_digest 22 = .ok (.lstore_n 1, 1) := by decide +kernel
theorem dX9_digest_23 : decode cX9_digest 23 = .ok (.iinc 3 1, 3) := by decide +kernel
theorem dX9_digest_26 : decode cX9_digest 26 = .ok (.goto (-20), 3) := by decide +kernel
theorem dX9_digest_29 : decode cX9_digest 29 = .ok (.lload_n 1, 1) := by decide +kernel
theorem dX9_digest_30 : decode cX9_digest 30 = .ok (.aload_n 0, 1) := by decide +kernel
theorem dX9_digest_31 : decode cX9_digest 31 = .ok (.iconst 0, 1) := by decide +kernel
theorem dX9_digest_32 : decode cX9_digest 32 = .ok (.invokevirtual 333, 3) := by decide +kernel
theorem dX9_digest_35 : decode cX9_digest 35 = .ok (.i2l, 1) := by decide +kernel
theorem dX9_digest_36 : decode cX9_digest 36 = .ok (.invokestatic 329, 3) := by decide +kernel
theorem dX9_digest_39 : decode cX9_digest 39 = .ok (.lstore_n 1, 1) := by decide +kernel
theorem dX9_digest_40 : decode cX9_digest 40 = .ok (.lload_n 1, 1) := by decide +kernel
theorem dX9_digest_41 : decode cX9_digest 41 = .ok (.aload_n 0, 1) := by decide +kernel
theorem dX9_digest_42 : decode cX9_digest 42 = .ok (.iconst 1, 1) := by decide +kernel
theorem dX9_digest_43 : decode cX9_digest 43 = .ok (.invokevirtual 333, 3) := by decide +kernel
theorem dX9_digest_46 : decode cX9_digest 46 = .ok (.i2l, 1) := by decide +kernel
theorem dX9_digest_47 : decode cX9_digest 47 = .ok (.invokestatic 329, 3) := by decide +kernel
theorem dX9_digest_50 : decode cX9_digest 50 = .ok (.lstore_n 1, 1) := by decide +kernel
theorem dX9_digest_51 : decode cX9_digest 51 = .ok (.iconst 0, 1) := by decide +kernel
theorem dX9_digest_52 : decode cX9_digest 52 = .ok (.istore_n 3, 1) := by decide +kernel
theorem dX9_digest_53 : decode cX9_digest 53 = .ok (.iload_n 3, 1) := by decide +kernel
theorem dX9_digest_54 : decode cX9_digest 54 = .ok (.aload_n 0, 1) := by decide +kernel
theorem dX9_digest_55 : decode cX9_digest 55 = .ok (.getfield 24, 3) := by decide +kernel
theorem dX9_digest_58 : decode cX9_digest 58 = .ok (.getfield 232, 3) := by decide +kernel
theorem dX9_digest_61 : decode cX9_digest 61 = .ok (.if_icmp .ge 16, 3) := by decide +kernel
theorem dX9_digest_64 : decode cX9_digest 64 = .ok (.aload_n 0, 1) := by decide +kernel
theorem dX9_digest_65 : decode cX9_digest 65 = .ok (.lload_n 1, 1) := by decide +kernel
theorem dX9_digest_66 : decode cX9_digest 66 = .ok (.iload_n 3, 1) := by decide +kernel
theorem dX9_digest_67 : decode cX9_digest 67 = .ok (.invokevirtual 336, 3) := by decide +kernel
theorem dX9_digest_70 : decode cX9_digest 70 = .ok (.lstore_n 1, 1) := by decide +kernel
theorem dX9_digest_71 : decode cX9_digest 71 = .ok (.iinc 3 1, 3) := by decide +kernel
theorem dX9_digest_74 : decode cX9_digest 74 = .ok (.goto (-21), 3) := by decide +kernel
theorem dX9_digest_77 : decode cX9_digest 77 = .ok (.iconst 0, 1) := by decide +kernel
theorem dX9_digest_78 : decode cX9_digest 78 = .ok (.istore_n 3, 1) := by decide +kernel
theorem dX9_digest_79 : decode cX9_digest 79 = .ok (.iload_n 3, 1) := by decide +kernel
theorem dX9_digest_80 : decode cX9_digest 80 = .ok (.aload_n 0, 1) := by decide +kernel
theorem dX9_digest_81 : decode cX9_digest 81 = .ok (.getfield 24, 3) := by decide +kernel
theorem dX9_digest_84 : decode cX9_digest 84 = .ok (.getfield 144, 3) := by decide +kernel
theorem dX9_digest_87 : decode cX9_digest 87 = .ok (.if_icmp .ge 16, 3) := by decide +kernel
theorem dX9_digest_90 : decode cX9_digest 90 = .ok (.aload_n 0, 1) := by decide +kernel
theorem dX9_digest_91 : decode cX9_digest 91 = .ok (.lload_n 1, 1) := by decide +kernel
theorem dX9_digest_92 : decode cX9_digest 92 = .ok (.iload_n 3, 1) := by decide +kernel
theorem dX9_digest_93 : decode cX9_digest 93 = .ok (.invokevirtual 340, 3) := by decide +kernel
theorem dX9_digest_96 : decode cX9_digest 96 = .ok (.lstore_n 1, 1) := by decide +kernel
theorem dX9_digest_97 : decode cX9_digest 97 = .ok (.iinc 3 1, 3) := by decide +kernel
theorem dX9_digest_100 : decode cX9_digest 100 = .ok (.goto (-21), 3) := by decide +kernel
theorem dX9_digest_103 : decode cX9_digest 103 = .ok (.lload_n 1, 1) := by decide +kernel
theorem dX9_digest_104 : decode cX9_digest 104 = .ok (.aload_n 0, 1) := by decide +kernel
theorem dX9_digest_105 : decode cX9_digest 105 = .ok (.invokevirtual 343, 3) := by decide +kernel
theorem dX9_digest_108 : decode cX9_digest 108 = .ok (.i2l, 1) := by decide +kernel
theorem dX9_digest_109 : decode cX9_digest 109 = .ok (.invokestatic 329, 3) := by decide +kernel
theorem dX9_digest_112 : decode cX9_digest 112 = .ok (.lstore_n 1, 1) := by decide +kernel
theorem dX9_digest_113 : decode cX9_digest 113 = .ok (.lload_n 1, 1) := by decide +kernel
theorem dX9_digest_114 : decode cX9_digest 114 = .ok (.aload_n 0, 1) := by decide +kernel
theorem dX9_digest_115 : decode cX9_digest 115 = .ok (.invokevirtual 345, 3) := by decide +kernel
theorem dX9_digest_118 : decode cX9_digest 118 = .ok (.i2l, 1) := by decide +kernel
theorem dX9_digest_119 : decode cX9_digest 119 = .ok (.invokestatic 329, 3) := by decide +kernel
theorem dX9_digest_122 : decode cX9_digest 122 = .ok (.lstore_n 1, 1) := by decide +kernel
theorem dX9_digest_123 : decode cX9_digest 123 = .ok (.lload_n 1, 1) := by decide +kernel
theorem dX9_digest_124 : decode cX9_digest 124 = .ok (.aload_n 0, 1) := by decide +kernel
theorem dX9_digest_125 : decode cX9_digest 125 = .ok (.invokevirtual 348, 3) := by decide +kernel
theorem dX9_digest_128 : decode cX9_digest 128 = .ok (.i2l, 1) := by decide +kernel
theorem dX9_digest_129 : decode cX9_digest 129 = .ok (.invokestatic 329, 3) := by decide +kernel
theorem dX9_digest_132 : decode cX9_digest 132 = .ok (.lstore_n 1, 1) := by decide +kernel
theorem dX9_digest_133 : decode cX9_digest 133 = .ok (.lload_n 1, 1) := by decide +kernel
theorem dX9_digest_134 : decode cX9_digest 134 = .ok (.aload_n 0, 1) := by decide +kernel
theorem dX9_digest_135 : decode cX9_digest 135 = .ok (.invokevirtual 351, 3) := by decide +kernel
theorem dX9_digest_138 : decode cX9_digest 138 = .ok (.i2l, 1) := by decide +kernel
theorem dX9_digest_139 : decode cX9_digest 139 = .ok (.invokestatic 329, 3) := by decide +kernel
theorem dX9_digest_142 : decode cX9_digest 142 = .ok (.lstore_n 1, 1) := by decide +kernel
theorem dX9_digest_143 : decode cX9_digest 143 = .ok (.lload_n 1, 1) := by decide +kernel
theorem dX9_digest_144 : decode cX9_digest 144 = .ok (.aload_n 0, 1) := by decide +kernel
theorem dX9_digest_145 : decode cX9_digest 145 = .ok (.invokevirtual 353, 3) := by decide +kernel
theorem dX9_digest_148 : decode cX9_digest 148 = .ok (.i2l, 1) := by decide +kernel
theorem dX9_digest_149 : decode cX9_digest 149 = .ok (.invokestatic 329, 3) := by decide +kernel
theorem dX9_digest_152 : decode cX9_digest 152 = .ok (.lstore_n 1, 1) := by decide +kernel
theorem dX9_digest_153 : decode cX9_digest 153 = .ok (.iconst 0, 1) := by decide +kernel
theorem dX9_digest_154 : decode cX9_digest 154 = .ok (.istore_n 3, 1) := by decide +kernel
theorem dX9_digest_155 : decode cX9_digest 155 = .ok (.iload_n 3, 1) := by decide +kernel
theorem dX9_digest_156 : decode cX9_digest 156 = .ok (.iconst 3, 1) := by decide +kernel
theorem dX9_digest_157 : decode cX9_digest 157 = .ok (.if_icmp .gt 20, 3) := by decide +kernel
theorem dX9_digest_160 : decode cX9_digest 160 = .ok (.lload_n 1, 1) := by decide +kernel
theorem dX9_digest_161 : decode cX9_digest 161 = .ok (.aload_n 0, 1) := by decide +kernel
theorem dX9_digest_162 : decode cX9_digest 162 = .ok (.iload_n 3, 1) := by decide +kernel
theorem dX9_digest_163 : decode cX9_digest 163 = .ok (.invokevirtual 355, 3) := by decide +kernel
theorem dX9_digest_166 : decode cX9_digest 166 = .ok (.i2l, 1) := by decide +kernel
theorem dX9_digest_167 : decode cX9_digest 167 = .ok (.invokestatic 329, 3) := by decide +kernel
theorem dX9_digest_170 : decode cX9_digest 170 = .ok (.lstore_n 1, 1) := by decide +kernel
theorem dX9_digest_171 : decode cX9_digest 171 = .ok (.iinc 3 1, 3) := by decide +kernel
theorem dX9_digest_174 : decode cX9_digest 174 = .ok (.goto (-19), 3) := by decide +kernel
theorem dX9_digest_177 : decode cX9_digest 177 = .ok (.lload_n 1, 1) := by decide +kernel
theorem dX9_digest_178 : decode cX9_digest 178 = .ok (.aload_n 0, 1) := by decide +kernel
theorem dX9_digest_179 : decode cX9_digest 179 = .ok (.invokevirtual 358, 3) := by decide +kernel
theorem dX9_digest_182 : decode cX9_digest 182 = .ok (.i2l, 1) := by decide +kernel
theorem dX9_digest_183 : decode cX9_digest 183 = .ok (.invokestatic 329, 3) := by decide +kernel
theorem dX9_digest_186 : decode cX9_digest 186 = .ok (.lstore_n 1, 1) := by decide +kernel
theorem dX9_digest_187 : decode cX9_digest 187 = .ok (.lload_n 1, 1) := by decide +kernel
theorem dX9_digest_188 : decode cX9_digest 188 = .ok (.aload_n 0, 1) := by decide +kernel
theorem dX9_digest_189 : decode cX9_digest 189 = .ok (.bipush 7, 2) := by decide +kernel
theorem dX9_digest_191 : decode cX9_digest 191 = .ok (.bipush 15, 2) := by decide +kernel
theorem dX9_digest_193 : decode cX9_digest 193 = .ok (.iconst 0, 1) := by decide +kernel
theorem dX9_digest_194 : decode cX9_digest 194 = .ok (.invokevirtual 361, 3) := by decide +kernel
theorem dX9_digest_197 : decode cX9_digest 197 = .ok (.i2l, 1) := by decide +kernel
theorem dX9_digest_198 : decode cX9_digest 198 = .ok (.invokestatic 329, 3) := by decide +kernel
theorem dX9_digest_201 : decode cX9_digest 201 = .ok (.lstore_n 1, 1) := by decide +kernel
theorem dX9_digest_202 : decode cX9_digest 202 = .ok (.lload_n 1, 1) := by decide +kernel
theorem dX9_digest_203 : decode cX9_digest 203 = .ok (.aload_n 0, 1) := by decide +kernel
theorem dX9_digest_204 : decode cX9_digest 204 = .ok (.bipush 7, 2) := by decide +kernel
theorem dX9_digest_206 : decode cX9_digest 206 = .ok (.bipush 15, 2) := by decide +kernel
theorem dX9_digest_208 : decode cX9_digest 208 = .ok (.iconst 1, 1) := by decide +kernel
theorem dX9_digest_209 : decode cX9_digest 209 = .ok (.invokevirtual 361, 3) := by decide +kernel
theorem dX9_digest_212 : decode cX9_digest 212 = .ok (.i2l, 1) := by decide +kernel
theorem dX9_digest_213 : decode cX9_digest 213 = .ok (.invokestatic 329, 3) := by decide +kernel
theorem dX9_digest_216 : decode cX9_digest 216 = .ok (.lreturn, 1) := by decide +kernel
theorem dX9_mixHeir_0 : decode cX9_mixHeir 0 = .ok (.lload_n 1, 1) := by decide +kernel
theorem dX9_mixHeir_1 : decode cX9_mixHeir 1 = .ok (.lstore 4, 2) := by decide +kernel
theorem dX9_mixHeir_3 : decode cX9_mixHeir 3 = .ok (.iconst 0, 1) := by decide +kernel
theorem dX9_mixHeir_4 : decode cX9_mixHeir 4 = .ok (.istore 6, 2) := by decide +kernel
theorem dX9_mixHeir_6 : decode cX9_mixHeir 6 = .ok (.iload 6, 2) := by decide +kernel
theorem dX9_mixHeir_8 : decode cX9_mixHeir 8 = .ok (.iconst 2, 1) := by decide +kernel
theorem dX9_mixHeir_9 : decode cX9_mixHeir 9 = .ok (.if_icmp .gt 24, 3) := by decide +kernel
theorem dX9_mixHeir_12 : decode cX9_mixHeir 12 = .ok (.lload 4, 2) := by decide +kernel
theorem dX9_mixHeir_14 : decode cX9_mixHeir 14 = .ok (.aload_n 0, 1) := by decide +kernel
theorem dX9_mixHeir_15 : decode cX9_mixHeir 15 = .ok (.iload_n 3, 1) := by decide +kernel
theorem dX9_mixHeir_16 : decode cX9_mixHeir 16 = .ok (.iload 6, 2) := by decide +kernel
theorem dX9_mixHeir_18 : decode cX9_mixHeir 18 = .ok (.invokevirtual 365, 3) := by decide +kernel
theorem dX9_mixHeir_21 : decode cX9_mixHeir 21 = .ok (.i2l, 1) := by decide +kernel
theorem dX9_mixHeir_22 : decode cX9_mixHeir 22 = .ok (.invokestatic 329, 3) := by decide +kernel
theorem dX9_mixHeir_25 : decode cX9_mixHeir 25 = .ok (.lstore 4, 2) := by decide +kernel
theorem dX9_mixHeir_27 : decode cX9_mixHeir 27 = .ok (.iinc 6 1, 3) := by decide +kernel
theorem dX9_mixHeir_30 : decode cX9_mixHeir 30 = .ok (.goto (-24), 3) := by decide +kernel
theorem dX9_mixHeir_33 : decode cX9_mixHeir 33 = .ok (.iconst 0, 1) := by decide +kernel
theorem dX9_mixHeir_34 : decode cX9_mixHeir 34 = .ok (.istore 6, 2) := by decide +kernel
theorem dX9_mixHeir_36 : decode cX9_mixHeir 36 = .ok (.iload 6, 2) := by decide +kernel
theorem dX9_mixHeir_38 : decode cX9_mixHeir 38 = .ok (.iconst 2, 1) := by decide +kernel
theorem dX9_mixHeir_39 : decode cX9_mixHeir 39 = .ok (.if_icmp .gt 31, 3) := by decide +kernel
theorem dX9_mixHeir_42 : decode cX9_mixHeir 42 = .ok (.lload 4, 2) := by decide +kernel
theorem dX9_mixHeir_44 : decode cX9_mixHeir 44 = .ok (.aload_n 0, 1) := by decide +kernel
theorem dX9_mixHeir_45 : decode cX9_mixHeir 45 = .ok (.aload_n 0, 1) := by decide +kernel
theorem dX9_mixHeir_46 : decode cX9_mixHeir 46 = .ok (.getfield 24, 3) := by decide +kernel
theorem dX9_mixHeir_49 : decode cX9_mixHeir 49 = .ok (.getfield 144, 3) := by decide +kernel
theorem dX9_mixHeir_52 : decode cX9_mixHeir 52 = .ok (.iload_n 3, 1) := by decide +kernel
theorem dX9_mixHeir_53 : decode cX9_mixHeir 53 = .ok (.iload 6, 2) := by decide +kernel
theorem dX9_mixHeir_55 : decode cX9_mixHeir 55 = .ok (.invokevirtual 368, 3) := by decide +kernel
theorem dX9_mixHeir_58 : decode cX9_mixHeir 58 = .ok (.i2l, 1) := by decide +kernel
theorem dX9_mixHeir_59 : decode cX9_mixHeir 59 = .ok (.invokestatic 329, 3) := by decide +kernel
theorem dX9_mixHeir_62 : decode cX9_mixHeir 62 = .ok (.lstore 4, 2) := by decide +kernel
theorem dX9_mixHeir_64 : decode cX9_mixHeir 64 = .ok (.iinc 6 1, 3) := by decide +kernel
theorem dX9_mixHeir_67 : decode cX9_mixHeir 67 = .ok (.goto (-31), 3) := by decide +kernel
theorem dX9_mixHeir_70 : decode cX9_mixHeir 70 = .ok (.lload 4, 2) := by decide +kernel
theorem dX9_mixHeir_72 : decode cX9_mixHeir 72 = .ok (.aload_n 0, 1) := by decide +kernel
theorem dX9_mixHeir_73 : decode cX9_mixHeir 73 = .ok (.iload_n 3, 1) := by decide +kernel
theorem dX9_mixHeir_74 : decode cX9_mixHeir 74 = .ok (.invokevirtual 370, 3) := by decide +kernel
theorem dX9_mixHeir_77 : decode cX9_mixHeir 77 = .ok (.i2l, 1) := by decide +kernel
theorem dX9_mixHeir_78 : decode cX9_mixHeir 78 = .ok (.invokestatic 329, 3) := by decide +kernel
theorem dX9_mixHeir_81 : decode cX9_mixHeir 81 = .ok (.lstore 4, 2) := by decide +kernel
theorem dX9_mixHeir_83 : decode cX9_mixHeir 83 = .ok (.lload 4, 2) := by decide +kernel
theorem dX9_mixHeir_85 : decode cX9_mixHeir 85 = .ok (.aload_n 0, 1) := by decide +kernel
theorem dX9_mixHeir_86 : decode cX9_mixHeir 86 = .ok (.iload_n 3, 1) := by decide +kernel
theorem dX9_mixHeir_87 : decode cX9_mixHeir 87 = .ok (.invokevirtual 373, 3) := by decide +kernel
theorem dX9_mixHeir_90 : decode cX9_mixHeir 90 = .ok (.i2l, 1) := by decide +kernel
theorem dX9_mixHeir_91 : decode cX9_mixHeir 91 = .ok (.invokestatic 329, 3) := by decide +kernel
theorem dX9_mixHeir_94 : decode cX9_mixHeir 94 = .ok (.lstore 4, 2) := by decide +kernel
theorem dX9_mixHeir_96 : decode cX9_mixHeir 96 = .ok (.lload 4, 2) := by decide +kernel
theorem dX9_mixHeir_98 : decode cX9_mixHeir 98 = .ok (.aload_n 0, 1) := by decide +kernel
theorem dX9_mixHeir_99 : decode cX9_mixHeir 99 = .ok (.iload_n 3, 1) := by decide +kernel
theorem dX9_mixHeir_100 : decode cX9_mixHeir 100 = .ok (.iconst 0, 1) := by decide +kernel
theorem dX9_mixHeir_101 : decode cX9_mixHeir 101 = .ok (.invokevirtual 376, 3) := by decide +kernel
theorem dX9_mixHeir_104 : decode cX9_mixHeir 104 = .ok (.i2l, 1) := by decide +kernel
theorem dX9_mixHeir_105 : decode cX9_mixHeir 105 = .ok (.invokestatic 329, 3) := by decide +kernel
theorem dX9_mixHeir_108 : decode cX9_mixHeir 108 = .ok (.lstore 4, 2) := by decide +kernel
theorem dX9_mixHeir_110 : decode cX9_mixHeir 110 = .ok (.lload 4, 2) := by decide +kernel
theorem dX9_mixHeir_112 : decode cX9_mixHeir 112 = .ok (.aload_n 0, 1) := by decide +kernel
theorem dX9_mixHeir_113 : decode cX9_mixHeir 113 = .ok (.iload_n 3, 1) := by decide +kernel
theorem dX9_mixHeir_114 : decode cX9_mixHeir 114 = .ok (.iconst 1, 1) := by decide +kernel
theorem dX9_mixHeir_115 : decode cX9_mixHeir 115 = .ok (.invokevirtual 376, 3) := by decide +kernel
theorem dX9_mixHeir_118 : decode cX9_mixHeir 118 = .ok (.i2l, 1) := by decide +kernel
theorem dX9_mixHeir_119 : decode cX9_mixHeir 119 = .ok (.invokestatic 329, 3) := by decide +kernel
theorem dX9_mixHeir_122 : decode cX9_mixHeir 122 = .ok (.lstore 4, 2) := by decide +kernel
theorem dX9_mixHeir_124 : decode cX9_mixHeir 124 = .ok (.lload 4, 2) := by decide +kernel
theorem dX9_mixHeir_126 : decode cX9_mixHeir 126 = .ok (.aload_n 0, 1) := by decide +kernel
theorem dX9_mixHeir_127 : decode cX9_mixHeir 127 = .ok (.iload_n 3, 1) := by decide +kernel
theorem dX9_mixHeir_128 : decode cX9_mixHeir 128 = .ok (.iconst 0, 1) := by decide +kernel
theorem dX9_mixHeir_129 : decode cX9_mixHeir 129 = .ok (.invokevirtual 379, 3) := by decide +kernel
theorem dX9_mixHeir_132 : decode cX9_mixHeir 132 = .ok (.i2l, 1) := by decide +kernel
theorem dX9_mixHeir_133 : decode cX9_mixHeir 133 = .ok (.invokestatic 329, 3) := by decide +kernel
theorem dX9_mixHeir_136 : decode cX9_mixHeir 136 = .ok (.lstore 4, 2) := by decide +kernel
theorem dX9_mixHeir_138 : decode cX9_mixHeir 138 = .ok (.lload 4, 2) := by decide +kernel
theorem dX9_mixHeir_140 : decode cX9_mixHeir 140 = .ok (.aload_n 0, 1) := by decide +kernel
theorem dX9_mixHeir_141 : decode cX9_mixHeir 141 = .ok (.iload_n 3, 1) := by decide +kernel
theorem dX9_mixHeir_142 : decode cX9_mixHeir 142 = .ok (.iconst 1, 1) := by decide +kernel
theorem dX9_mixHeir_143 : decode cX9_mixHeir 143 = .ok (.invokevirtual 379, 3) := by decide +kernel
theorem dX9_mixHeir_146 : decode cX9_mixHeir 146 = .ok (.i2l, 1) := by decide +kernel
theorem dX9_mixHeir_147 : decode cX9_mixHeir 147 = .ok (.invokestatic 329, 3) := by decide +kernel
theorem dX9_mixHeir_150 : decode cX9_mixHeir 150 = .ok (.lstore 4, 2) := by decide +kernel
theorem dX9_mixHeir_152 : decode cX9_mixHeir 152 = .ok (.lload 4, 2) := by decide +kernel
theorem dX9_mixHeir_154 : decode cX9_mixHeir 154 = .ok (.aload_n 0, 1) := by decide +kernel
theorem dX9_mixHeir_155 : decode cX9_mixHeir 155 = .ok (.iload_n 3, 1) := by decide +kernel
theorem dX9_mixHeir_156 : decode cX9_mixHeir 156 = .ok (.invokevirtual 382, 3) := by decide +kernel
theorem dX9_mixHeir_159 : decode cX9_mixHeir 159 = .ok (.i2l, 1) := by decide +kernel
theorem dX9_mixHeir_160 : decode cX9_mixHeir 160 = .ok (.invokestatic 329, 3) := by decide +kernel
theorem dX9_mixHeir_163 : decode cX9_mixHeir 163 = .ok (.lstore 4, 2) := by decide +kernel
theorem dX9_mixHeir_165 : decode cX9_mixHeir 165 = .ok (.lload 4, 2) := by decide +kernel
theorem dX9_mixHeir_167 : decode cX9_mixHeir 167 = .ok (.aload_n 0, 1) := by decide +kernel
theorem dX9_mixHeir_168 : decode cX9_mixHeir 168 = .ok (.iconst 5, 1) := by decide +kernel
theorem dX9_mixHeir_169 : decode cX9_mixHeir 169 = .ok (.iload_n 3, 1) := by decide +kernel
theorem dX9_mixHeir_170 : decode cX9_mixHeir 170 = .ok (.iconst 0, 1) := by decide +kernel
theorem dX9_mixHeir_171 : decode cX9_mixHeir 171 = .ok (.invokevirtual 385, 3) := by decide +kernel
theorem dX9_mixHeir_174 : decode cX9_mixHeir 174 = .ok (.invokestatic 329, 3) := by decide +kernel
theorem dX9_mixHeir_177 : decode cX9_mixHeir 177 = .ok (.lstore 4, 2) := by decide +kernel
theorem dX9_mixHeir_179 : decode cX9_mixHeir 179 = .ok (.lload 4, 2) := by decide +kernel
theorem dX9_mixHeir_181 : decode cX9_mixHeir 181 = .ok (.aload_n 0, 1) := by decide +kernel
theorem dX9_mixHeir_182 : decode cX9_mixHeir 182 = .ok (.iconst 5, 1) := by decide +kernel
theorem dX9_mixHeir_183 : decode cX9_mixHeir 183 = .ok (.iload_n 3, 1) := by decide +kernel
theorem dX9_mixHeir_184 : decode cX9_mixHeir 184 = .ok (.iconst 1, 1) := by decide +kernel
theorem dX9_mixHeir_185 : decode cX9_mixHeir 185 = .ok (.invokevirtual 385, 3) := by decide +kernel
theorem dX9_mixHeir_188 : decode cX9_mixHeir 188 = .ok (.invokestatic 329, 3) := by decide +kernel
theorem dX9_mixHeir_191 : decode cX9_mixHeir 191 = .ok (.lreturn, 1) := by decide +kernel
theorem dX9_mixStop_0 : decode cX9_mixStop 0 = .ok (.lload_n 1, 1) := by decide +kernel
theorem dX9_mixStop_1 : decode cX9_mixStop 1 = .ok (.aload_n 0, 1) := by decide +kernel
theorem dX9_mixStop_2 : decode cX9_mixStop 2 = .ok (.iload_n 3, 1) := by decide +kernel
theorem dX9_mixStop_3 : decode cX9_mixStop 3 = .ok (.invokevirtual 389, 3) := by decide +kernel
theorem dX9_mixStop_6 : decode cX9_mixStop 6 = .ok (.i2l, 1) := by decide +kernel
theorem dX9_mixStop_7 : decode cX9_mixStop 7 = .ok (.invokestatic 329, 3) := by decide +kernel
theorem dX9_mixStop_10 : decode cX9_mixStop 10 = .ok (.lstore 4, 2) := by decide +kernel
theorem dX9_mixStop_12 : decode cX9_mixStop 12 = .ok (.iconst 0, 1) := by decide +kernel
theorem dX9_mixStop_13 : decode cX9_mixStop 13 = .ok (.istore 6, 2) := by decide +kernel
theorem dX9_mixStop_15 : decode cX9_mixStop 15 = .ok (.iload 6, 2) := by decide +kernel
theorem dX9_mixStop_17 : decode cX9_mixStop 17 = .ok (.iconst 3, 1) := by decide +kernel
theorem dX9_mixStop_18 : decode cX9_mixStop 18 = .ok (.if_icmp .gt 24, 3) := by decide +kernel
theorem dX9_mixStop_21 : decode cX9_mixStop 21 = .ok (.lload 4, 2) := by decide +kernel
theorem dX9_mixStop_23 : decode cX9_mixStop 23 = .ok (.aload_n 0, 1) := by decide +kernel
theorem dX9_mixStop_24 : decode cX9_mixStop 24 = .ok (.iload_n 3, 1) := by decide +kernel
theorem dX9_mixStop_25 : decode cX9_mixStop 25 = .ok (.iload 6, 2) := by decide +kernel
theorem dX9_mixStop_27 : decode cX9_mixStop 27 = .ok (.invokevirtual 392, 3) := by decide +kernel
theorem dX9_mixStop_30 : decode cX9_mixStop 30 = .ok (.i2l, 1) := by decide +kernel
theorem dX9_mixStop_31 : decode cX9_mixStop 31 = .ok (.invokestatic 329, 3) := by decide +kernel
theorem dX9_mixStop_34 : decode cX9_mixStop 34 = .ok (.lstore 4, 2) := by decide +kernel
theorem dX9_mixStop_36 : decode cX9_mixStop 36 = .ok (.iinc 6 1, 3) := by decide +kernel
theorem dX9_mixStop_39 : decode cX9_mixStop 39 = .ok (.goto (-24), 3) := by decide +kernel
theorem dX9_mixStop_42 : decode cX9_mixStop 42 = .ok (.iconst 0, 1) := by decide +kernel
theorem dX9_mixStop_43 : decode cX9_mixStop 43 = .ok (.istore 6, 2) := by decide +kernel
theorem dX9_mixStop_45 : decode cX9_mixStop 45 = .ok (.iload 6, 2) := by decide +kernel
theorem dX9_mixStop_47 : decode cX9_mixStop 47 = .ok (.aload_n 0, 1) := by decide +kernel
theorem dX9_mixStop_48 : decode cX9_mixStop 48 = .ok (.getfield 24, 3) := by decide +kernel
theorem dX9_mixStop_51 : decode cX9_mixStop 51 = .ok (.getfield 232, 3) := by decide +kernel
theorem dX9_mixStop_54 : decode cX9_mixStop 54 = .ok (.if_icmp .ge 25, 3) := by decide +kernel
theorem dX9_mixStop_57 : decode cX9_mixStop 57 = .ok (.lload 4, 2) := by decide +kernel
theorem dX9_mixStop_59 : decode cX9_mixStop 59 = .ok (.aload_n 0, 1) := by decide +kernel
theorem dX9_mixStop_60 : decode cX9_mixStop 60 = .ok (.iload_n 3, 1) := by decide +kernel
theorem dX9_mixStop_61 : decode cX9_mixStop 61 = .ok (.iload 6, 2) := by decide +kernel
theorem dX9_mixStop_63 : decode cX9_mixStop 63 = .ok (.iconst 0, 1) := by decide +kernel
theorem dX9_mixStop_64 : decode cX9_mixStop 64 = .ok (.invokevirtual 368, 3) := by decide +kernel
theorem dX9_mixStop_67 : decode cX9_mixStop 67 = .ok (.i2l, 1) := by decide +kernel
theorem dX9_mixStop_68 : decode cX9_mixStop 68 = .ok (.invokestatic 329, 3) := by decide +kernel
theorem dX9_mixStop_71 : decode cX9_mixStop 71 = .ok (.lstore 4, 2) := by decide +kernel
theorem dX9_mixStop_73 : decode cX9_mixStop 73 = .ok (.iinc 6 1, 3) := by decide +kernel
theorem dX9_mixStop_76 : decode cX9_mixStop 76 = .ok (.goto (-31), 3) := by decide +kernel
theorem dX9_mixStop_79 : decode cX9_mixStop 79 = .ok (.lload 4, 2) := by decide +kernel
theorem dX9_mixStop_81 : decode cX9_mixStop 81 = .ok (.lreturn, 1) := by decide +kernel
theorem dX9_mixed_0 : decode cX9_mixed 0 = .ok (.ldc2_w 395, 3) := by decide +kernel
theorem dX9_mixed_3 : decode cX9_mixed 3 = .ok (.lload_n 0, 1) := by decide +kernel
theorem dX9_mixed_4 : decode cX9_mixed 4 = .ok (.lmul, 1) := by decide +kernel
theorem dX9_mixed_5 : decode cX9_mixed 5 = .ok (.lload_n 2, 1) := by decide +kernel
theorem dX9_mixed_6 : decode cX9_mixed 6 = .ok (.ladd, 1) := by decide +kernel
theorem dX9_mixed_7 : decode cX9_mixed 7 = .ok (.lreturn, 1) := by decide +kernel
theorem dX9_within_0 : decode cX9_within 0 = .ok (.iload_n 0, 1) := by decide +kernel
theorem dX9_within_1 : decode cX9_within 1 = .ok (.ifCond .lt 12, 3) := by decide +kernel
theorem dX9_within_4 : decode cX9_within 4 = .ok (.iload_n 0, 1) := by decide +kernel
theorem dX9_within_5 : decode cX9_within 5 = .ok (.iload_n 1, 1) := by decide +kernel
theorem dX9_within_6 : decode cX9_within 6 = .ok (.if_icmp .gt 7, 3) := by decide +kernel
theorem dX9_within_9 : decode cX9_within 9 = .ok (.iconst 1, 1) := by decide +kernel
theorem dX9_within_10 : decode cX9_within 10 = .ok (.goto 4, 3) := by decide +kernel
theorem dX9_within_13 : decode cX9_within 13 = .ok (.iconst 0, 1) := by decide +kernel
theorem dX9_within_14 : decode cX9_within 14 = .ok (.ireturn, 1) := by decide +kernel
theorem dX9_isText_0 : decode cX9_isText 0 = .ok (.iload_n 0, 1) := by decide +kernel
theorem dX9_isText_1 : decode cX9_isText 1 = .ok (.ifCond .eq 8, 3) := by decide +kernel
theorem dX9_isText_4 : decode cX9_isText 4 = .ok (.iload_n 0, 1) := by decide +kernel
theorem dX9_isText_5 : decode cX9_isText 5 = .ok (.iconst 1, 1) := by decide +kernel
theorem dX9_isText_6 : decode cX9_isText 6 = .ok (.if_icmp .ne 7, 3) := by decide +kernel
theorem dX9_isText_9 : decode cX9_isText 9 = .ok (.iconst 1, 1) := by decide +kernel
theorem dX9_isText_10 : decode cX9_isText 10 = .ok (.goto 4, 3) := by decide +kernel
theorem dX9_isText_13 : decode cX9_isText 13 = .ok (.iconst 0, 1) := by decide +kernel
theorem dX9_isText_14 : decode cX9_isText 14 = .ok (.ireturn, 1) := by decide +kernel
theorem dX9_isSheet_0 : decode cX9_isSheet 0 = .ok (.iload_n 0, 1) := by decide +kernel
theorem dX9_isSheet_1 : decode cX9_isSheet 1 = .ok (.iconst 3, 1) := by decide +kernel
theorem dX9_isSheet_2 : decode cX9_isSheet 2 = .ok (.invokestatic 104, 3) := by decide +kernel
theorem dX9_isSheet_5 : decode cX9_isSheet 5 = .ok (.ireturn, 1) := by decide +kernel
theorem dX9_isForm_0 : decode cX9_isForm 0 = .ok (.iload_n 0, 1) := by decide +kernel
theorem dX9_isForm_1 : decode cX9_isForm 1 = .ok (.iconst 2, 1) := by decide +kernel
theorem dX9_isForm_2 : decode cX9_isForm 2 = .ok (.invokestatic 104, 3) := by decide +kernel
theorem dX9_isForm_5 : decode cX9_isForm 5 = .ok (.ireturn, 1) := by decide +kernel
theorem dX9_isHeir_0 : decode cX9_isHeir 0 = .ok (.iload_n 1, 1) := by decide +kernel
theorem dX9_isHeir_1 : decode cX9_isHeir 1 = .ok (.ifCond .lt 18, 3) := by decide +kernel
theorem dX9_isHeir_4 : decode cX9_isHeir 4 = .ok (.iload_n 1, 1) := by decide +kernel
theorem dX9_isHeir_5 : decode cX9_isHeir 5 = .ok (.aload_n 0, 1) := by decide +kernel
theorem dX9_isHeir_6 : decode cX9_isHeir 6 = .ok (.getfield 24, 3) := by decide +kernel
theorem dX9_isHeir_9 : decode cX9_isHeir 9 = .ok (.getfield 232, 3) := by decide +kernel
theorem dX9_isHeir_12 : decode cX9_isHeir 12 = .ok (.if_icmp .ge 7, 3) := by decide +kernel
theorem dX9_isHeir_15 : decode cX9_isHeir 15 = .ok (.iconst 1, 1) := by decide +kernel
theorem dX9_isHeir_16 : decode cX9_isHeir 16 = .ok (.goto 4, 3) := by decide +kernel
theorem dX9_isHeir_19 : decode cX9_isHeir 19 = .ok (.iconst 0, 1) := by decide +kernel
theorem dX9_isHeir_20 : decode cX9_isHeir 20 = .ok (.ireturn, 1) := by decide +kernel
theorem dX9_mayFly_0 : decode cX9_mayFly 0 = .ok (.iload_n 1, 1) := by decide +kernel
theorem dX9_mayFly_1 : decode cX9_mayFly 1 = .ok (.bipush 19, 2) := by decide +kernel
theorem dX9_mayFly_3 : decode cX9_mayFly 3 = .ok (.invokestatic 104, 3) := by decide +kernel
theorem dX9_mayFly_6 : decode cX9_mayFly 6 = .ok (.ifCond .eq 19, 3) := by decide +kernel
theorem dX9_mayFly_9 : decode cX9_mayFly 9 = .ok (.aload_n 0, 1) := by decide +kernel
theorem dX9_mayFly_10 : decode cX9_mayFly 10 = .ok (.getfield 45, 3) := by decide +kernel
theorem dX9_mayFly_13 : decode cX9_mayFly 13 = .ok (.getfield 156, 3) := by decide +kernel
theorem dX9_mayFly_16 : decode cX9_mayFly 16 = .ok (.bipush 6, 2) := by decide +kernel
theorem dX9_mayFly_18 : decode cX9_mayFly 18 = .ok (.if_icmp .ge 7, 3) := by decide +kernel
theorem dX9_mayFly_21 : decode cX9_mayFly 21 = .ok (.iconst 1, 1) := by decide +kernel
theorem dX9_mayFly_22 : decode cX9_mayFly 22 = .ok (.goto 4, 3) := by decide +kernel
theorem dX9_mayFly_25 : decode cX9_mayFly 25 = .ok (.iconst 0, 1) := by decide +kernel
theorem dX9_mayFly_26 : decode cX9_mayFly 26 = .ok (.ireturn, 1) := by decide +kernel
theorem dX9_scriptOf_0 : decode cX9_scriptOf 0 = .ok (.iload_n 1, 1) := by decide +kernel
theorem dX9_scriptOf_1 : decode cX9_scriptOf 1 = .ok (.ifCond .ne 10, 3) := by decide +kernel
theorem dX9_scriptOf_4 : decode cX9_scriptOf 4 = .ok (.aload_n 0, 1) := by decide +kernel
theorem dX9_scriptOf_5 : decode cX9_scriptOf 5 = .ok (.getfield 14, 3) := by decide +kernel
theorem dX9_scriptOf_8 : decode cX9_scriptOf 8 = .ok (.goto 7, 3) := by decide +kernel
theorem dX9_scriptOf_11 : decode cX9_scriptOf 11 = .ok (.aload_n 0, 1) := by decide +kernel
theorem dX9_scriptOf_12 : decode cX9_scriptOf 12 = .ok (.getfield 18, 3) := by decide +kernel
theorem dX9_scriptOf_15 : decode cX9_scriptOf 15 = .ok (.areturn, 1) := by decide +kernel
theorem dX9_found_0 : decode cX9_found 0 = .ok (.aload_n 0, 1) := by decide +kernel
theorem dX9_found_1 : decode cX9_found 1 = .ok (.iload_n 1, 1) := by decide +kernel
theorem dX9_found_2 : decode cX9_found 2 = .ok (.putfield 83, 3) := by decide +kernel
theorem dX9_found_5 : decode cX9_found 5 = .ok (.bipush (-10), 2) := by decide +kernel
theorem dX9_found_7 : decode cX9_found 7 = .ok (.iload_n 1, 1) := by decide +kernel
theorem dX9_found_8 : decode cX9_found 8 = .ok (.isub, 1) := by decide +kernel
theorem dX9_found_9 : decode cX9_found 9 = .ok (.ireturn, 1) := by decide +kernel
theorem dX9_takeText_0 : decode cX9_takeText 0 = .ok (.iload_n 1, 1) := by decide +kernel
theorem dX9_takeText_1 : decode cX9_takeText 1 = .ok (.ifCond .ne 17, 3) := by decide +kernel
theorem dX9_takeText_4 : decode cX9_takeText 4 = .ok (.aload_n 0, 1) := by decide +kernel
theorem dX9_takeText_5 : decode cX9_takeText 5 = .ok (.getfield 24, 3) := by decide +kernel
theorem dX9_takeText_8 : decode cX9_takeText 8 = .ok (.aload_n 0, 1) := by decide +kernel
theorem dX9_takeText_9 : decode cX9_takeText 9 = .ok (.getfield 14, 3) := by decide +kernel
theorem dX9_takeText_12 : decode cX9_takeText 12 = .ok (.invokevirtual 397, 3) := by decide +kernel
theorem dX9_takeText_15 : decode cX9_takeText 15 = .ok (.goto 14, 3) := by decide +kernel
theorem dX9_takeText_18 : decode cX9_takeText 18 = .ok (.aload_n 0, 1) := by decide +kernel
theorem dX9_takeText_19 : decode cX9_takeText 19 = .ok (.getfield 24, 3) := by decide +kernel
theorem dX9_takeText_22 : decode cX9_takeText 22 = .ok (.aload_n 0, 1) := by decide +kernel
theorem dX9_takeText_23 : decode cX9_takeText 23 = .ok (.getfield 18, 3) := by decide +kernel
theorem dX9_takeText_26 : decode cX9_takeText 26 = .ok (.invokevirtual 401, 3) := by decide +kernel
theorem dX9_takeText_29 : decode cX9_takeText 29 = .ok (.aload_n 0, 1) := by decide +kernel
theorem dX9_takeText_30 : decode cX9_takeText 30 = .ok (.invokevirtual 153, 3) := by decide +kernel
theorem dX9_takeText_33 : decode cX9_takeText 33 = .ok (.return_, 1) := by decide +kernel
theorem dX9_takeFlies_0 : decode cX9_takeFlies 0 = .ok (.aload_n 0, 1) := by decide +kernel
theorem dX9_takeFlies_1 : decode cX9_takeFlies 1 = .ok (.getfield 24, 3) := by decide +kernel
theorem dX9_takeFlies_4 : decode cX9_takeFlies 4 = .ok (.aload_n 0, 1) := by decide +kernel
theorem dX9_takeFlies_5 : decode cX9_takeFlies 5 = .ok (.getfield 45, 3) := by decide +kernel
theorem dX9_takeFlies_8 : decode cX9_takeFlies 8 = .ok (.bipush 63, 2) := by decide +kernel
theorem dX9_takeFlies_10 : decode cX9_takeFlies 10 = .ok (.invokevirtual 404, 3) := by decide +kernel
theorem dX9_takeFlies_13 : decode cX9_takeFlies 13 = .ok (.putfield 260, 3) := by decide +kernel
theorem dX9_takeFlies_16 : decode cX9_takeFlies 16 = .ok (.aload_n 0, 1) := by decide +kernel
theorem dX9_takeFlies_17 : decode cX9_takeFlies 17 = .ok (.invokevirtual 153, 3) := by decide +kernel
theorem dX9_takeFlies_20 : decode cX9_takeFlies 20 = .ok (.return_, 1) := by decide +kernel
theorem dX9_retell_0 : decode cX9_retell 0 = .ok (.aload_n 0, 1) := by decide +kernel
theorem dX9_retell_1 : decode cX9_retell 1 = .ok (.getfield 31, 3) := by decide +kernel
theorem dX9_retell_4 : decode cX9_retell 4 = .ok (.aload_n 0, 1) := by decide +kernel
theorem dX9_retell_5 : decode cX9_retell 5 = .ok (.getfield 24, 3) := by decide +kernel
theorem dX9_retell_8 : decode cX9_retell 8 = .ok (.invokevirtual 407, 3) := by decide +kernel
theorem dX9_retell_11 : decode cX9_retell 11 = .ok (.aload_n 0, 1) := by decide +kernel
theorem dX9_retell_12 : decode cX9_retell 12 = .ok (.iconst 0, 1) := by decide +kernel
theorem dX9_retell_13 : decode cX9_retell 13 = .ok (.putfield 76, 3) := by decide +kernel
theorem dX9_retell_16 : decode cX9_retell 16 = .ok (.aload_n 0, 1) := by decide +kernel
theorem dX9_retell_17 : decode cX9_retell 17 = .ok (.iconst 0, 1) := by decide +kernel
theorem dX9_retell_18 : decode cX9_retell 18 = .ok (.putfield 80, 3) := by decide +kernel
theorem dX9_retell_21 : decode cX9_retell 21 = .ok (.return_, 1) := by decide +kernel
theorem dX9_tellRichestBySet_0 : decode cX9_tellRichestBySet 0 = .ok (.aload_n 0, 1) := by decide +kernel
theorem dX9_tellRichestBySet_1 : decode cX9_tellRichestBySet 1 = .ok (.getfield 80, 3) := by decide +kernel
theorem dX9_tellRichestBySet_4 : decode cX9_tellRichestBySet 4 = .ok (.ifCond .eq 4, 3) := by decide +kernel
theorem dX9_tellRichestBySet_7 : decode cX9_tellRichestBySet 7 = .ok (.return_, 1) := by decide +kernel
theorem dX9_tellRichestBySet_8 : decode cX9_tellRichestBySet 8 = .ok (.aload_n 0, 1) := by decide +kernel
theorem dX9_tellRichestBySet_9 : decode cX9_tellRichestBySet 9 = .ok (.getfield 38, 3) := by decide +kernel
theorem dX9_tellRichestBySet_12 : decode cX9_tellRichestBySet 12 = .ok (.aload_n 0, 1) := by decide +kernel
theorem dX9_tellRichestBySet_13 : decode cX9_tellRichestBySet 13 = .ok (.getfield 24, 3) := by decide +kernel
theorem dX9_tellRichestBySet_16 : decode cX9_tellRichestBySet 16 = .ok (.invokevirtual 220, 3) := by decide +kernel
theorem dX9_tellRichestBySet_19 : decode cX9_tellRichestBySet 19 = .ok (.iconst 0, 1) := by decide +kernel
theorem dX9_tellRichestBySet_20 : decode cX9_tellRichestBySet 20 = .ok (.istore_n 1, 1) := by decide +kernel
theorem dX9_tellRichestBySet_21 : decode cX9_tellRichestBySet 21 = .ok (.iload_n 1, 1) := by decide +kernel
theorem dX9_tellRichestBySet_22 : decode cX9_tellRichestBySet 22 = .ok (.iconst 1, 1) := by decide +kernel
theorem dX9_tellRichestBySet_23 : decode cX9_tellRichestBySet 23 = .ok (.aload_n 0, 1) := by decide +kernel
theorem dX9_tellRichestBySet_24 : decode cX9_tellRichestBySet 24 = .ok (.getfield 45, 3) := by decide +kernel
theorem dX9_tellRichestBySet_27 : decode cX9_tellRichestBySet 27 = .ok (.getfield 156, 3) := by decide +kernel
theorem dX9_tellRichestBySet_30 : decode cX9_tellRichestBySet 30 = .ok (.ishl, 1) := by decide +kernel
theorem dX9_tellRichestBySet_31 : decode cX9_tellRichestBySet 31 = .ok (.if_icmp .ge 50, 3) := by decide +kernel
theorem dX9_tellRichestBySet_34 : decode cX9_tellRichestBySet 34 = .ok (.aload_n 0, 1) := by decide +kernel
theorem dX9_tellRichestBySet_35 : decode cX9_tellRichestBySet 35 = .ok (.getfield 38, 3) := by decide +kernel
theorem dX9_tellRichestBySet_38 : decode cX9_tellRichestBySet 38 = .ok (.getfield 224, 3) := by decide +kernel
theorem dX9_tellRichestBySet_41 : decode cX9_tellRichestBySet 41 = .ok (.aload_n 0, 1) := by decide +kernel
theorem dX9_tellRichestBySet_42 : decode cX9_tellRichestBySet 42 = .ok (.getfield 45, 3) := by decide +kernel
theorem dX9_tellRichestBySet_45 : decode cX9_tellRichestBySet 45 = .ok (.iload_n 1, 1) := by decide +kernel
theorem dX9_tellRichestBySet_46 : decode cX9_tellRichestBySet 46 = .ok (.invokevirtual 404, 3) := by decide +kernel
theorem dX9_tellRichestBySet_49 : decode cX9_tellRichestBySet 49 = .ok (.putfield 260, 3) := by decide +kernel
theorem dX9_tellRichestBySet_52 : decode cX9_tellRichestBySet 52 = .ok (.aload_n 0, 1) := by decide +kernel
theorem dX9_tellRichestBySet_53 : decode cX9_tellRichestBySet 53 = .ok (.getfield 38, 3) := by decide +kernel
theorem dX9_tellRichestBySet_56 : decode cX9_tellRichestBySet 56 = .ok (.invokevirtual 225, 3) := by decide +kernel
theorem dX9_tellRichestBySet_59 : decode cX9_tellRichestBySet 59 = .ok (.aload_n 0, 1) := by decide +kernel
theorem dX9_tellRichestBySet_60 : decode cX9_tellRichestBySet 60 = .ok (.getfield 63, 3) := by decide +kernel
theorem dX9_tellRichestBySet_63 : decode cX9_tellRichestBySet 63 = .ok (.iload_n 1, 1) := by decide +kernel
theorem dX9_tellRichestBySet_64 : decode cX9_tellRichestBySet 64 = .ok (.aload_n 0, 1) := by decide +kernel
theorem dX9_tellRichestBySet_65 : decode cX9_tellRichestBySet 65 = .ok (.getfield 38, 3) := by decide +kernel
theorem dX9_tellRichestBySet_68 : decode cX9_tellRichestBySet 68 = .ok (.getfield 228, 3) := by decide +kernel
theorem dX9_tellRichestBySet_71 : decode cX9_tellRichestBySet 71 = .ok (.invokevirtual 211, 3) := by decide +kernel
theorem dX9_tellRichestBySet_74 : decode cX9_tellRichestBySet 74 = .ok (.iastore, 1) := by decide +kernel
theorem dX9_tellRichestBySet_75 : decode cX9_tellRichestBySet 75 = .ok (.iinc 1 1, 3) := by decide +kernel
theorem dX9_tellRichestBySet_78 : decode cX9_tellRichestBySet 78 = .ok (.goto (-57), 3) := by decide +kernel
theorem dX9_tellRichestBySet_81 : decode cX9_tellRichestBySet 81 = .ok (.aload_n 0, 1) := by decide +kernel
theorem dX9_tellRichestBySet_82 : decode cX9_tellRichestBySet 82 = .ok (.iconst 1, 1) := by decide +kernel
theorem dX9_tellRichestBySet_83 : decode cX9_tellRichestBySet 83 = .ok (.putfield 80, 3) := by decide +kernel
theorem dX9_tellRichestBySet_86 : decode cX9_tellRichestBySet 86 = .ok (.return_, 1) := by decide +kernel
theorem dX9_weightOf_0 : decode cX9_weightOf 0 = .ok (.lconst 1, 1) := by decide +kernel
theorem dX9_weightOf_1 : decode cX9_weightOf 1 = .ok (.lstore_n 3, 1) := by decide +kernel
theorem dX9_weightOf_2 : decode cX9_weightOf 2 = .ok (.iconst 0, 1) := by decide +kernel
theorem dX9_weightOf_3 : decode cX9_weightOf 3 = .ok (.istore 5, 2) := by decide +kernel
theorem dX9_weightOf_5 : decode cX9_weightOf 5 = .ok (.iload 5, 2) := by decide +kernel
theorem dX9_weightOf_7 : decode cX9_weightOf 7 = .ok (.aload_n 0, 1) := by decide +kernel
theorem dX9_weightOf_8 : decode cX9_weightOf 8 = .ok (.getfield 45, 3) := by decide +kernel
theorem dX9_weightOf_11 : decode cX9_weightOf 11 = .ok (.getfield 156, 3) := by decide +kernel
theorem dX9_weightOf_14 : decode cX9_weightOf 14 = .ok (.if_icmp .ge 31, 3) := by decide +kernel
theorem dX9_weightOf_17 : decode cX9_weightOf 17 = .ok (.lload_n 3, 1) := by decide +kernel
theorem dX9_weightOf_18 : decode cX9_weightOf 18 = .ok (.iload_n 1, 1) := by decide +kernel
theorem dX9_weightOf_19 : decode cX9_weightOf 19 = .ok (.iload 5, 2) := by decide +kernel
theorem dX9_weightOf_21 : decode cX9_weightOf 21 = .ok (.ishr, 1) := by decide +kernel
theorem dX9_weightOf_22 : decode cX9_weightOf 22 = .ok (.iconst 1, 1) := by decide +kernel
theorem dX9_weightOf_23 : decode cX9_weightOf 23 = .ok (.iand, 1) := by decide +kernel
theorem dX9_weightOf_24 : decode cX9_weightOf 24 = .ok (.ifCond .eq 8, 3) := by decide +kernel
theorem dX9_weightOf_27 : decode cX9_weightOf 27 = .ok (.iload_n 2, 1) := by decide +kernel
theorem dX9_weightOf_28 : decode cX9_weightOf 28 = .ok (.i2l, 1) := by decide +kernel
theorem dX9_weightOf_29 : decode cX9_weightOf 29 = .ok (.goto 8, 3) := by decide +kernel
theorem dX9_weightOf_32 : decode cX9_weightOf 32 = .ok (.bipush 16, 2) := by decide +kernel
theorem dX9_weightOf_34 : decode cX9_weightOf 34 = .ok (.iload_n 2, 1) := by decide +kernel
theorem dX9_weightOf_35 : decode cX9_weightOf 35 = .ok (.isub, 1) := by decide +kernel
theorem dX9_weightOf_36 : decode cX9_weightOf 36 = .ok (.i2l, 1) := by decide +kernel
theorem dX9_weightOf_37 : decode cX9_weightOf 37 = .ok (.lmul, 1) := by decide +kernel
theorem dX9_weightOf_38 : decode cX9_weightOf 38 = .ok (.lstore_n 3, 1) := by decide +kernel
theorem dX9_weightOf_39 : decode cX9_weightOf 39 = .ok (.iinc 5 1, 3) := by decide +kernel
theorem dX9_weightOf_42 : decode cX9_weightOf 42 = .ok (.goto (-37), 3) := by decide +kernel
theorem dX9_weightOf_45 : decode cX9_weightOf 45 = .ok (.lload_n 3, 1) := by decide +kernel
theorem dX9_weightOf_46 : decode cX9_weightOf 46 = .ok (.lreturn, 1) := by decide +kernel
theorem dX9_tallyTrial_0 : decode cX9_tallyTrial 0 = .ok (.iconst 0, 1) := by decide +kernel
theorem dX9_tallyTrial_1 : decode cX9_tallyTrial 1 = .ok (.istore_n 1, 1) := by decide +kernel
theorem dX9_tallyTrial_2 : decode cX9_tallyTrial 2 = .ok (.iload_n 1, 1) := by decide +kernel
theorem dX9_tallyTrial_3 : decode cX9_tallyTrial 3 = .ok (.aload_n 0, 1) := by decide +kernel
theorem dX9_tallyTrial_4 : decode cX9_tallyTrial 4 = .ok (.getfield 24, 3) := by decide +kernel
theorem dX9_tallyTrial_7 : decode cX9_tallyTrial 7 = .ok (.getfield 144, 3) := by decide +kernel
theorem dX9_tallyTrial_10 : decode cX9_tallyTrial 10 = .ok (.if_icmp .ge 31, 3) := by decide +kernel
theorem dX9_tallyTrial_13 : decode cX9_tallyTrial 13 = .ok (.aload_n 0, 1) := by decide +kernel
theorem dX9_tallyTrial_14 : decode cX9_tallyTrial 14 = .ok (.getfield 67, 3) := by decide +kernel
theorem dX9_tallyTrial_17 : decode cX9_tallyTrial 17 = .ok (.iload_n 1, 1) := by decide +kernel
theorem dX9_tallyTrial_18 : decode cX9_tallyTrial 18 = .ok (.iconst 5, 1) := by decide +kernel
theorem dX9_tallyTrial_19 : decode cX9_tallyTrial 19 = .ok (.imul, 1) := by decide +kernel
theorem dX9_tallyTrial_20 : decode cX9_tallyTrial 20 = .ok (.aload_n 0, 1) := by decide +kernel
theorem dX9_tallyTrial_21 : decode cX9_tallyTrial 21 = .ok (.getfield 38, 3) := by decide +kernel
theorem dX9_tallyTrial_24 : decode cX9_tallyTrial 24 = .ok (.getfield 410, 3) := by decide +kernel
theorem dX9_tallyTrial_27 : decode cX9_tallyTrial 27 = .ok (.iload_n 1, 1) := by decide +kernel
theorem dX9_tallyTrial_28 : decode cX9_tallyTrial 28 = .ok (.iaload, 1) := by decide +kernel
theorem dX9_tallyTrial_29 : decode cX9_tallyTrial 29 = .ok (.iadd, 1) := by decide +kernel
theorem dX9_tallyTrial_30 : decode cX9_tallyTrial 30 = .ok (.dup2, 1) := by decide +kernel
theorem dX9_tallyTrial_31 : decode cX9_tallyTrial 31 = .ok (.iaload, 1) := by decide +kernel
theorem dX9_tallyTrial_32 : decode cX9_tallyTrial 32 = .ok (.iconst 1, 1) := by decide +kernel
theorem dX9_tallyTrial_33 : decode cX9_tallyTrial 33 = .ok (.iadd, 1) := by decide +kernel
theorem dX9_tallyTrial_34 : decode cX9_tallyTrial 34 = .ok (.iastore, 1) := by decide +kernel
theorem dX9_tallyTrial_35 : decode cX9_tallyTrial 35 = .ok (.iinc 1 1, 3) := by decide +kernel
theorem dX9_tallyTrial_38 : decode cX9_tallyTrial 38 = .ok (.goto (-36), 3) := by decide +kernel
theorem dX9_tallyTrial_41 : decode cX9_tallyTrial 41 = .ok (.return_, 1) := by decide +kernel
theorem dX9_mostAlike_0 : decode cX9_mostAlike 0 = .ok (.iconst 0, 1) := by decide +kernel
theorem dX9_mostAlike_1 : decode cX9_mostAlike 1 = .ok (.istore_n 2, 1) := by decide +kernel
theorem dX9_mostAlike_2 : decode cX9_mostAlike 2 = .ok (.iconst 0, 1) := by decide +kernel
theorem dX9_mostAlike_3 : decode cX9_mostAlike 3 = .ok (.istore_n 3, 1) := by decide +kernel
theorem dX9_mostAlike_4 : decode cX9_mostAlike 4 = .ok (.iload_n 3, 1) := by decide +kernel
theorem dX9_mostAlike_5 : decode cX9_mostAlike 5 = .ok (.iconst 5, 1) := by decide +kernel
theorem dX9_mostAlike_6 : decode cX9_mostAlike 6 = .ok (.if_icmp .ge 24, 3) := by decide +kernel
theorem dX9_mostAlike_9 : decode cX9_mostAlike 9 = .ok (.iload_n 2, 1) := by decide +kernel
theorem dX9_mostAlike_10 : decode cX9_mostAlike 10 = .ok (.aload_n 0, 1) := by decide +kernel
theorem dX9_mostAlike_11 : decode cX9_mostAlike 11 = .ok (.getfield 67, 3) := by decide +kernel
theorem dX9_mostAlike_14 : decode cX9_mostAlike 14 = .ok (.iload_n 1, 1) := by decide +kernel
theorem dX9_mostAlike_15 : decode cX9_mostAlike 15 = .ok (.iconst 5, 1) := by decide +kernel
theorem dX9_mostAlike_16 : decode cX9_mostAlike 16 = .ok (.imul, 1) := by decide +kernel
theorem dX9_mostAlike_17 : decode cX9_mostAlike 17 = .ok (.iload_n 3, 1) := by decide +kernel
theorem dX9_mostAlike_18 : decode cX9_mostAlike 18 = .ok (.iadd, 1) := by decide +kernel
theorem dX9_mostAlike_19 : decode cX9_mostAlike 19 = .ok (.iaload, 1) := by decide +kernel
theorem dX9_mostAlike_20 : decode cX9_mostAlike 20 = .ok (.invokestatic 411, 3) := by decide +kernel
theorem dX9_mostAlike_23 : decode cX9_mostAlike 23 = .ok (.istore_n 2, 1) := by decide +kernel
theorem dX9_mostAlike_24 : decode cX9_mostAlike 24 = .ok (.iinc 3 1, 3) := by decide +kernel
theorem dX9_mostAlike_27 : decode cX9_mostAlike 27 = .ok (.goto (-23), 3) := by decide +kernel
theorem dX9_mostAlike_30 : decode cX9_mostAlike 30 = .ok (.iload_n 2, 1) := by decide +kernel
theorem dX9_mostAlike_31 : decode cX9_mostAlike 31 = .ok (.ireturn, 1) := by decide +kernel
