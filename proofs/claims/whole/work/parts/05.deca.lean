theorem dX0_init_0 : decode cX0_init 0 = .ok (.aload_n 0, 1) := by decide +kernel
theorem dX0_init_1 : decode cX0_init 1 = .ok (.invokespecial 3, 3) := by decide +kernel
theorem dX0_init_4 : decode cX0_init 4 = .ok (.aload_n 0, 1) := by decide +kernel
theorem dX0_init_5 : decode cX0_init 5 = .ok (.bipush 9, 2) := by decide +kernel
theorem dX0_init_7 : decode cX0_init 7 = .ok (.anewarray 9, 3) := by decide +kernel
theorem dX0_init_10 : decode cX0_init 10 = .ok (.putfield 11, 3) := by decide +kernel
theorem dX0_init_13 : decode cX0_init 13 = .ok (.aload_n 0, 1) := by decide +kernel
theorem dX0_init_14 : decode cX0_init 14 = .ok (.bipush 8, 2) := by decide +kernel
theorem dX0_init_16 : decode cX0_init 16 = .ok (.newarray .int, 2) := by decide +kernel
theorem dX0_init_18 : decode cX0_init 18 = .ok (.putfield 17, 3) := by decide +kernel
theorem dX0_init_21 : decode cX0_init 21 = .ok (.aload_n 0, 1) := by decide +kernel
theorem dX0_init_22 : decode cX0_init 22 = .ok (.bipush 8, 2) := by decide +kernel
theorem dX0_init_24 : decode cX0_init 24 = .ok (.newarray .int, 2) := by decide +kernel
theorem dX0_init_26 : decode cX0_init 26 = .ok (.putfield 21, 3) := by decide +kernel
theorem dX0_init_29 : decode cX0_init 29 = .ok (.aload_n 0, 1) := by decide +kernel
theorem dX0_init_30 : decode cX0_init 30 = .ok (.iconst (-1), 1) := by decide +kernel
theorem dX0_init_31 : decode cX0_init 31 = .ok (.putfield 24, 3) := by decide +kernel
theorem dX0_init_34 : decode cX0_init 34 = .ok (.iconst 0, 1) := by decide +kernel
theorem dX0_init_35 : decode cX0_init 35 = .ok (.istore_n 1, 1) := by decide +kernel
theorem dX0_init_36 : decode cX0_init 36 = .ok (.iload_n 1, 1) := by decide +kernel
theorem dX0_init_37 : decode cX0_init 37 = .ok (.bipush 8, 2) := by decide +kernel
theorem dX0_init_39 : decode cX0_init 39 = .ok (.if_icmp .gt 22, 3) := by decide +kernel
theorem dX0_init_42 : decode cX0_init 42 = .ok (.aload_n 0, 1) := by decide +kernel
theorem dX0_init_43 : decode cX0_init 43 = .ok (.getfield 11, 3) := by decide +kernel
theorem dX0_init_46 : decode cX0_init 46 = .ok (.iload_n 1, 1) := by decide +kernel
theorem dX0_init_47 : decode cX0_init 47 = .ok (.new 9, 3) := by decide +kernel
theorem dX0_init_50 : decode cX0_init 50 = .ok (.dup, 1) := by decide +kernel
theorem dX0_init_51 : decode cX0_init 51 = .ok (.invokespecial 28, 3) := by decide +kernel
theorem dX0_init_54 : decode cX0_init 54 = .ok (.aastore, 1) := by decide +kernel
theorem dX0_init_55 : decode cX0_init 55 = .ok (.iinc 1 1, 3) := by decide +kernel
theorem dX0_init_58 : decode cX0_init 58 = .ok (.goto (-22), 3) := by decide +kernel
theorem dX0_init_61 : decode cX0_init 61 = .ok (.return_, 1) := by decide +kernel
theorem dX0_find_0 : decode cX0_find 0 = .ok (.aload_n 0, 1) := by decide +kernel
theorem dX0_find_1 : decode cX0_find 1 = .ok (.iconst (-1), 1) := by decide +kernel
theorem dX0_find_2 : decode cX0_find 2 = .ok (.putfield 24, 3) := by decide +kernel
theorem dX0_find_5 : decode cX0_find 5 = .ok (.aload_n 0, 1) := by decide +kernel
theorem dX0_find_6 : decode cX0_find 6 = .ok (.getfield 11, 3) := by decide +kernel
theorem dX0_find_9 : decode cX0_find 9 = .ok (.iconst 0, 1) := by decide +kernel
theorem dX0_find_10 : decode cX0_find 10 = .ok (.aaload, 1) := by decide +kernel
theorem dX0_find_11 : decode cX0_find 11 = .ok (.aload_n 1, 1) := by decide +kernel
theorem dX0_find_12 : decode cX0_find 12 = .ok (.invokevirtual 29, 3) := by decide +kernel
theorem dX0_find_15 : decode cX0_find 15 = .ok (.aload_n 0, 1) := by decide +kernel
theorem dX0_find_16 : decode cX0_find 16 = .ok (.aload_n 1, 1) := by decide +kernel
theorem dX0_find_17 : decode cX0_find 17 = .ok (.iconst 0, 1) := by decide +kernel
theorem dX0_find_18 : decode cX0_find 18 = .ok (.iconst 0, 1) := by decide +kernel
theorem dX0_find_19 : decode cX0_find 19 = .ok (.invokevirtual 33, 3) := by decide +kernel
theorem dX0_find_22 : decode cX0_find 22 = .ok (.return_, 1) := by decide +kernel
theorem dX0_seek_0 : decode cX0_seek 0 = .ok (.iload_n 2, 1) := by decide +kernel
theorem dX0_seek_1 : decode cX0_seek 1 = .ok (.aload_n 1, 1) := by decide +kernel
theorem dX0_seek_2 : decode cX0_seek 2 = .ok (.getfield 37, 3) := by decide +kernel
theorem dX0_seek_5 : decode cX0_seek 5 = .ok (.if_icmp .ge 9, 3) := by decide +kernel
theorem dX0_seek_8 : decode cX0_seek 8 = .ok (.iload_n 2, 1) := by decide +kernel
theorem dX0_seek_9 : decode cX0_seek 9 = .ok (.bipush 8, 2) := by decide +kernel
theorem dX0_seek_11 : decode cX0_seek 11 = .ok (.if_icmp .lt 34, 3) := by decide +kernel
theorem dX0_seek_14 : decode cX0_seek 14 = .ok (.aload_n 0, 1) := by decide +kernel
theorem dX0_seek_15 : decode cX0_seek 15 = .ok (.aload_n 1, 1) := by decide +kernel
theorem dX0_seek_16 : decode cX0_seek 16 = .ok (.aload_n 0, 1) := by decide +kernel
theorem dX0_seek_17 : decode cX0_seek 17 = .ok (.getfield 11, 3) := by decide +kernel
theorem dX0_seek_20 : decode cX0_seek 20 = .ok (.iload_n 2, 1) := by decide +kernel
theorem dX0_seek_21 : decode cX0_seek 21 = .ok (.aaload, 1) := by decide +kernel
theorem dX0_seek_22 : decode cX0_seek 22 = .ok (.iload_n 3, 1) := by decide +kernel
theorem dX0_seek_23 : decode cX0_seek 23 = .ok (.invokestatic 42, 3) := by decide +kernel
theorem dX0_seek_26 : decode cX0_seek 26 = .ok (.putfield 24, 3) := by decide +kernel
theorem dX0_seek_29 : decode cX0_seek 29 = .ok (.aload_n 0, 1) := by decide +kernel
theorem dX0_seek_30 : decode cX0_seek 30 = .ok (.getfield 17, 3) := by decide +kernel
theorem dX0_seek_33 : decode cX0_seek 33 = .ok (.iconst 0, 1) := by decide +kernel
theorem dX0_seek_34 : decode cX0_seek 34 = .ok (.aload_n 0, 1) := by decide +kernel
theorem dX0_seek_35 : decode cX0_seek 35 = .ok (.getfield 21, 3) := by decide +kernel
theorem dX0_seek_38 : decode cX0_seek 38 = .ok (.iconst 0, 1) := by decide +kernel
theorem dX0_seek_39 : decode cX0_seek 39 = .ok (.bipush 8, 2) := by decide +kernel
theorem dX0_seek_41 : decode cX0_seek 41 = .ok (.invokestatic 46, 3) := by decide +kernel
theorem dX0_seek_44 : decode cX0_seek 44 = .ok (.return_, 1) := by decide +kernel
theorem dX0_seek_45 : decode cX0_seek 45 = .ok (.aload_n 0, 1) := by decide +kernel
theorem dX0_seek_46 : decode cX0_seek 46 = .ok (.getfield 11, 3) := by decide +kernel
theorem dX0_seek_49 : decode cX0_seek 49 = .ok (.iload_n 2, 1) := by decide +kernel
theorem dX0_seek_50 : decode cX0_seek 50 = .ok (.iconst 1, 1) := by decide +kernel
theorem dX0_seek_51 : decode cX0_seek 51 = .ok (.iadd, 1) := by decide +kernel
theorem dX0_seek_52 : decode cX0_seek 52 = .ok (.aaload, 1) := by decide +kernel
theorem dX0_seek_53 : decode cX0_seek 53 = .ok (.astore 4, 2) := by decide +kernel
theorem dX0_seek_55 : decode cX0_seek 55 = .ok (.iconst 0, 1) := by decide +kernel
theorem dX0_seek_56 : decode cX0_seek 56 = .ok (.istore 5, 2) := by decide +kernel
theorem dX0_seek_58 : decode cX0_seek 58 = .ok (.iload 5, 2) := by decide +kernel
theorem dX0_seek_60 : decode cX0_seek 60 = .ok (.aload_n 1, 1) := by decide +kernel
theorem dX0_seek_61 : decode cX0_seek 61 = .ok (.getfield 37, 3) := by decide +kernel
theorem dX0_seek_64 : decode cX0_seek 64 = .ok (.if_icmp .ge 79, 3) := by decide +kernel
theorem dX0_seek_67 : decode cX0_seek 67 = .ok (.iload_n 3, 1) := by decide +kernel
theorem dX0_seek_68 : decode cX0_seek 68 = .ok (.iload 5, 2) := by decide +kernel
theorem dX0_seek_70 : decode cX0_seek 70 = .ok (.ishr, 1) := by decide +kernel
theorem dX0_seek_71 : decode cX0_seek 71 = .ok (.iconst 1, 1) := by decide +kernel
theorem dX0_seek_72 : decode cX0_seek 72 = .ok (.iand, 1) := by decide +kernel
theorem dX0_seek_73 : decode cX0_seek 73 = .ok (.ifCond .ne 64, 3) := by decide +kernel
theorem dX0_seek_76 : decode cX0_seek 76 = .ok (.iload_n 3, 1) := by decide +kernel
theorem dX0_seek_77 : decode cX0_seek 77 = .ok (.iconst 1, 1) := by decide +kernel
theorem dX0_seek_78 : decode cX0_seek 78 = .ok (.iload 5, 2) := by decide +kernel
theorem dX0_seek_80 : decode cX0_seek 80 = .ok (.ishl, 1) := by decide +kernel
theorem dX0_seek_81 : decode cX0_seek 81 = .ok (.ior, 1) := by decide +kernel
theorem dX0_seek_82 : decode cX0_seek 82 = .ok (.istore 6, 2) := by decide +kernel
theorem dX0_seek_84 : decode cX0_seek 84 = .ok (.aload_n 0, 1) := by decide +kernel
theorem dX0_seek_85 : decode cX0_seek 85 = .ok (.getfield 17, 3) := by decide +kernel
theorem dX0_seek_88 : decode cX0_seek 88 = .ok (.iload_n 2, 1) := by decide +kernel
theorem dX0_seek_89 : decode cX0_seek 89 = .ok (.iload 5, 2) := by decide +kernel
theorem dX0_seek_91 : decode cX0_seek 91 = .ok (.iastore, 1) := by decide +kernel
theorem dX0_seek_92 : decode cX0_seek 92 = .ok (.aload 4, 2) := by decide +kernel
theorem dX0_seek_94 : decode cX0_seek 94 = .ok (.aload_n 0, 1) := by decide +kernel
theorem dX0_seek_95 : decode cX0_seek 95 = .ok (.getfield 11, 3) := by decide +kernel
theorem dX0_seek_98 : decode cX0_seek 98 = .ok (.iload_n 2, 1) := by decide +kernel
theorem dX0_seek_99 : decode cX0_seek 99 = .ok (.aaload, 1) := by decide +kernel
theorem dX0_seek_100 : decode cX0_seek 100 = .ok (.invokevirtual 52, 3) := by decide +kernel
theorem dX0_seek_103 : decode cX0_seek 103 = .ok (.aload 4, 2) := by decide +kernel
theorem dX0_seek_105 : decode cX0_seek 105 = .ok (.aload_n 1, 1) := by decide +kernel
theorem dX0_seek_106 : decode cX0_seek 106 = .ok (.iload_n 2, 1) := by decide +kernel
theorem dX0_seek_107 : decode cX0_seek 107 = .ok (.iload 5, 2) := by decide +kernel
theorem dX0_seek_109 : decode cX0_seek 109 = .ok (.invokevirtual 56, 3) := by decide +kernel
theorem dX0_seek_112 : decode cX0_seek 112 = .ok (.aload_n 1, 1) := by decide +kernel
theorem dX0_seek_113 : decode cX0_seek 113 = .ok (.aload 4, 2) := by decide +kernel
theorem dX0_seek_115 : decode cX0_seek 115 = .ok (.iload 6, 2) := by decide +kernel
theorem dX0_seek_117 : decode cX0_seek 117 = .ok (.invokestatic 42, 3) := by decide +kernel
theorem dX0_seek_120 : decode cX0_seek 120 = .ok (.aload_n 0, 1) := by decide +kernel
theorem dX0_seek_121 : decode cX0_seek 121 = .ok (.getfield 24, 3) := by decide +kernel
theorem dX0_seek_124 : decode cX0_seek 124 = .ok (.if_icmp .le 13, 3) := by decide +kernel
theorem dX0_seek_127 : decode cX0_seek 127 = .ok (.aload_n 0, 1) := by decide +kernel
theorem dX0_seek_128 : decode cX0_seek 128 = .ok (.aload_n 1, 1) := by decide +kernel
theorem dX0_seek_129 : decode cX0_seek 129 = .ok (.iload_n 2, 1) := by decide +kernel
theorem dX0_seek_130 : decode cX0_seek 130 = .ok (.iconst 1, 1) := by decide +kernel
theorem dX0_seek_131 : decode cX0_seek 131 = .ok (.iadd, 1) := by decide +kernel
theorem dX0_seek_132 : decode cX0_seek 132 = .ok (.iload 6, 2) := by decide +kernel
theorem dX0_seek_134 : decode cX0_seek 134 = .ok (.invokevirtual 33, 3) := by decide +kernel
theorem dX0_seek_137 : decode cX0_seek 137 = .ok (.iinc 5 1, 3) := by decide +kernel
theorem dX0_seek_140 : decode cX0_seek 140 = .ok (.goto (-82), 3) := by decide +kernel
theorem dX0_seek_143 : decode cX0_seek 143 = .ok (.return_, 1) := by decide +kernel
theorem dX0_hope_0 : decode cX0_hope 0 = .ok (.bipush 18, 2) := by decide +kernel
theorem dX0_hope_2 : decode cX0_hope 2 = .ok (.istore_n 3, 1) := by decide +kernel
theorem dX0_hope_3 : decode cX0_hope 3 = .ok (.iconst 0, 1) := by decide +kernel
theorem dX0_hope_4 : decode cX0_hope 4 = .ok (.istore 4, 2) := by decide +kernel
theorem dX0_hope_6 : decode cX0_hope 6 = .ok (.iload 4, 2) := by decide +kernel
theorem dX0_hope_8 : decode cX0_hope 8 = .ok (.aload_n 0, 1) := by decide +kernel
theorem dX0_hope_9 : decode cX0_hope 9 = .ok (.getfield 37, 3) := by decide +kernel
theorem dX0_hope_12 : decode cX0_hope 12 = .ok (.if_icmp .ge 51, 3) := by decide +kernel
theorem dX0_hope_15 : decode cX0_hope 15 = .ok (.iload_n 2, 1) := by decide +kernel
theorem dX0_hope_16 : decode cX0_hope 16 = .ok (.iload 4, 2) := by decide +kernel
theorem dX0_hope_18 : decode cX0_hope 18 = .ok (.ishr, 1) := by decide +kernel
theorem dX0_hope_19 : decode cX0_hope 19 = .ok (.iconst 1, 1) := by decide +kernel
theorem dX0_hope_20 : decode cX0_hope 20 = .ok (.iand, 1) := by decide +kernel
theorem dX0_hope_21 : decode cX0_hope 21 = .ok (.ifCond .eq 7, 3) := by decide +kernel
theorem dX0_hope_24 : decode cX0_hope 24 = .ok (.iconst 1, 1) := by decide +kernel
theorem dX0_hope_25 : decode cX0_hope 25 = .ok (.goto 4, 3) := by decide +kernel
theorem dX0_hope_28 : decode cX0_hope 28 = .ok (.iconst 0, 1) := by decide +kernel
theorem dX0_hope_29 : decode cX0_hope 29 = .ok (.istore 5, 2) := by decide +kernel
theorem dX0_hope_31 : decode cX0_hope 31 = .ok (.iload_n 3, 1) := by decide +kernel
theorem dX0_hope_32 : decode cX0_hope 32 = .ok (.iload 5, 2) := by decide +kernel
theorem dX0_hope_34 : decode cX0_hope 34 = .ok (.ifCond .eq 13, 3) := by decide +kernel
theorem dX0_hope_37 : decode cX0_hope 37 = .ok (.aload_n 1, 1) := by decide +kernel
theorem dX0_hope_38 : decode cX0_hope 38 = .ok (.getfield 59, 3) := by decide +kernel
theorem dX0_hope_41 : decode cX0_hope 41 = .ok (.iload 4, 2) := by decide +kernel
theorem dX0_hope_43 : decode cX0_hope 43 = .ok (.iaload, 1) := by decide +kernel
theorem dX0_hope_44 : decode cX0_hope 44 = .ok (.goto 9, 3) := by decide +kernel
theorem dX0_hope_47 : decode cX0_hope 47 = .ok (.aload_n 0, 1) := by decide +kernel
theorem dX0_hope_48 : decode cX0_hope 48 = .ok (.iload 4, 2) := by decide +kernel
theorem dX0_hope_50 : decode cX0_hope 50 = .ok (.invokevirtual 62, 3) := by decide +kernel
theorem dX0_hope_53 : decode cX0_hope 53 = .ok (.invokestatic 66, 3) := by decide +kernel
theorem dX0_hope_56 : decode cX0_hope 56 = .ok (.istore_n 3, 1) := by decide +kernel
theorem dX0_hope_57 : decode cX0_hope 57 = .ok (.iinc 4 1, 3) := by decide +kernel
theorem dX0_hope_60 : decode cX0_hope 60 = .ok (.goto (-54), 3) := by decide +kernel
theorem dX0_hope_63 : decode cX0_hope 63 = .ok (.iload_n 3, 1) := by decide +kernel
theorem dX0_hope_64 : decode cX0_hope 64 = .ok (.ireturn, 1) := by decide +kernel
theorem dX1_init_0 : decode cX1_init 0 = .ok (.aload_n 0, 1) := by decide +kernel
theorem dX1_init_1 : decode cX1_init 1 = .ok (.invokespecial 3, 3) := by decide +kernel
theorem dX1_init_4 : decode cX1_init 4 = .ok (.aload_n 0, 1) := by decide +kernel
theorem dX1_init_5 : decode cX1_init 5 = .ok (.bipush 6, 2) := by decide +kernel
theorem dX1_init_7 : decode cX1_init 7 = .ok (.newarray .int, 2) := by decide +kernel
theorem dX1_init_9 : decode cX1_init 9 = .ok (.putfield 9, 3) := by decide +kernel
theorem dX1_init_12 : decode cX1_init 12 = .ok (.aload_n 0, 1) := by decide +kernel
theorem dX1_init_13 : decode cX1_init 13 = .ok (.iconst 0, 1) := by decide +kernel
theorem dX1_init_14 : decode cX1_init 14 = .ok (.putfield 15, 3) := by decide +kernel
theorem dX1_init_17 : decode cX1_init 17 = .ok (.return_, 1) := by decide +kernel
theorem dX1_append_0 : decode cX1_append 0 = .ok (.aload_n 0, 1) := by decide +kernel
theorem dX1_append_1 : decode cX1_append 1 = .ok (.getfield 15, 3) := by decide +kernel
theorem dX1_append_4 : decode cX1_append 4 = .ok (.bipush 6, 2) := by decide +kernel
theorem dX1_append_6 : decode cX1_append 6 = .ok (.if_icmp .ge 23, 3) := by decide +kernel
theorem dX1_append_9 : decode cX1_append 9 = .ok (.aload_n 0, 1) := by decide +kernel
theorem dX1_append_10 : decode cX1_append 10 = .ok (.getfield 9, 3) := by decide +kernel
theorem dX1_append_13 : decode cX1_append 13 = .ok (.aload_n 0, 1) := by decide +kernel
theorem dX1_append_14 : decode cX1_append 14 = .ok (.getfield 15, 3) := by decide +kernel
theorem dX1_append_17 : decode cX1_append 17 = .ok (.iload_n 1, 1) := by decide +kernel
theorem dX1_append_18 : decode cX1_append 18 = .ok (.iastore, 1) := by decide +kernel
theorem dX1_append_19 : decode cX1_append 19 = .ok (.aload_n 0, 1) := by decide +kernel
theorem dX1_append_20 : decode cX1_append 20 = .ok (.dup, 1) := by decide +kernel
theorem dX1_append_21 : decode cX1_append 21 = .ok (.getfield 15, 3) := by decide +kernel
theorem dX1_append_24 : decode cX1_append 24 = .ok (.iconst 1, 1) := by decide +kernel
theorem dX1_append_25 : decode cX1_append 25 = .ok (.iadd, 1) := by decide +kernel
theorem dX1_append_26 : decode cX1_append 26 = .ok (.putfield 15, 3) := by decide +kernel
theorem dX1_append_29 : decode cX1_append 29 = .ok (.return_, 1) := by decide +kernel
theorem dX1_stopsOf_0 : decode cX1_stopsOf 0 = .ok (.iconst 0, 1) := by decide +kernel
theorem dX1_stopsOf_1 : decode cX1_stopsOf 1 = .ok (.istore_n 2, 1) := by decide +kernel
theorem dX1_stopsOf_2 : decode cX1_stopsOf 2 = .ok (.iconst 0, 1) := by decide +kernel
theorem dX1_stopsOf_3 : decode cX1_stopsOf 3 = .ok (.istore_n 3, 1) := by decide +kernel
theorem dX1_stopsOf_4 : decode cX1_stopsOf 4 = .ok (.iload_n 3, 1) := by decide +kernel
theorem dX1_stopsOf_5 : decode cX1_stopsOf 5 = .ok (.aload_n 0, 1) := by decide +kernel
theorem dX1_stopsOf_6 : decode cX1_stopsOf 6 = .ok (.getfield 15, 3) := by decide +kernel
theorem dX1_stopsOf_9 : decode cX1_stopsOf 9 = .ok (.if_icmp .ge 28, 3) := by decide +kernel
theorem dX1_stopsOf_12 : decode cX1_stopsOf 12 = .ok (.iload_n 1, 1) := by decide +kernel
theorem dX1_stopsOf_13 : decode cX1_stopsOf 13 = .ok (.iload_n 3, 1) := by decide +kernel
theorem dX1_stopsOf_14 : decode cX1_stopsOf 14 = .ok (.ishr, 1) := by decide +kernel
theorem dX1_stopsOf_15 : decode cX1_stopsOf 15 = .ok (.iconst 1, 1) := by decide +kernel
theorem dX1_stopsOf_16 : decode cX1_stopsOf 16 = .ok (.iand, 1) := by decide +kernel
theorem dX1_stopsOf_17 : decode cX1_stopsOf 17 = .ok (.ifCond .eq 14, 3) := by decide +kernel
theorem dX1_stopsOf_20 : decode cX1_stopsOf 20 = .ok (.iload_n 2, 1) := by decide +kernel
theorem dX1_stopsOf_21 : decode cX1_stopsOf 21 = .ok (.iconst 1, 1) := by decide +kernel
theorem dX1_stopsOf_22 : decode cX1_stopsOf 22 = .ok (.aload_n 0, 1) := by decide +kernel
theorem dX1_stopsOf_23 : decode cX1_stopsOf 23 = .ok (.getfield 9, 3) := by decide +kernel
theorem dX1_stopsOf_26 : decode cX1_stopsOf 26 = .ok (.iload_n 3, 1) := by decide +kernel
theorem dX1_stopsOf_27 : decode cX1_stopsOf 27 = .ok (.iaload, 1) := by decide +kernel
theorem dX1_stopsOf_28 : decode cX1_stopsOf 28 = .ok (.ishl, 1) := by decide +kernel
theorem dX1_stopsOf_29 : decode cX1_stopsOf 29 = .ok (.ior, 1) := by decide +kernel
theorem dX1_stopsOf_30 : decode cX1_stopsOf 30 = .ok (.istore_n 2, 1) := by decide +kernel
theorem dX1_stopsOf_31 : decode cX1_stopsOf 31 = .ok (.iinc 3 1, 3) := by decide +kernel
theorem dX1_stopsOf_34 : decode cX1_stopsOf 34 = .ok (.goto (-30), 3) := by decide +kernel
theorem dX1_stopsOf_37 : decode cX1_stopsOf 37 = .ok (.iload_n 2, 1) := by decide +kernel
theorem dX1_stopsOf_38 : decode cX1_stopsOf 38 = .ok (.ireturn, 1) := by decide +kernel
theorem dX1_stopsWithout_0 : decode cX1_stopsWithout 0 = .ok (.aload_n 0, 1) := by decide +kernel
theorem dX1_stopsWithout_1 : decode cX1_stopsWithout 1 = .ok (.bipush 63, 2) := by decide +kernel
theorem dX1_stopsWithout_3 : decode cX1_stopsWithout 3 = .ok (.iconst 1, 1) := by decide +kernel
theorem dX1_stopsWithout_4 : decode cX1_stopsWithout 4 = .ok (.iload_n 1, 1) := by decide +kernel
theorem dX1_stopsWithout_5 : decode cX1_stopsWithout 5 = .ok (.ishl, 1) := by decide +kernel
theorem dX1_stopsWithout_6 : decode cX1_stopsWithout 6 = .ok (.iconst (-1), 1) := by decide +kernel
theorem dX1_stopsWithout_7 : decode cX1_stopsWithout 7 = .ok (.ixor, 1) := by decide +kernel
theorem dX1_stopsWithout_8 : decode cX1_stopsWithout 8 = .ok (.iand, 1) := by decide +kernel
theorem dX1_stopsWithout_9 : decode cX1_stopsWithout 9 = .ok (.invokevirtual 19, 3) := by decide +kernel
theorem dX1_stopsWithout_12 : decode cX1_stopsWithout 12 = .ok (.ireturn, 1) := by decide +kernel
theorem dX2_init_0 : decode cX2_init 0 = .ok (.aload_n 0, 1) := by decide +kernel
theorem dX2_init_1 : decode cX2_init 1 = .ok (.invokespecial 3, 3) := by decide +kernel
theorem dX2_init_4 : decode cX2_init 4 = .ok (.aload_n 0, 1) := by decide +kernel
theorem dX2_init_5 : decode cX2_init 5 = .ok (.bipush 8, 2) := by decide +kernel
theorem dX2_init_7 : decode cX2_init 7 = .ok (.newarray .int, 2) := by decide +kernel
theorem dX2_init_9 : decode cX2_init 9 = .ok (.putfield 9, 3) := by decide +kernel
theorem dX2_init_12 : decode cX2_init 12 = .ok (.aload_n 0, 1) := by decide +kernel
theorem dX2_init_13 : decode cX2_init 13 = .ok (.bipush 8, 2) := by decide +kernel
theorem dX2_init_15 : decode cX2_init 15 = .ok (.newarray .int, 2) := by decide +kernel
theorem dX2_init_17 : decode cX2_init 17 = .ok (.putfield 15, 3) := by decide +kernel
theorem dX2_init_20 : decode cX2_init 20 = .ok (.aload_n 0, 1) := by decide +kernel
theorem dX2_init_21 : decode cX2_init 21 = .ok (.bipush 8, 2) := by decide +kernel
theorem dX2_init_23 : decode cX2_init 23 = .ok (.newarray .int, 2) := by decide +kernel
theorem dX2_init_25 : decode cX2_init 25 = .ok (.putfield 18, 3) := by decide +kernel
theorem dX2_init_28 : decode cX2_init 28 = .ok (.aload_n 0, 1) := by decide +kernel
theorem dX2_init_29 : decode cX2_init 29 = .ok (.iconst 4, 1) := by decide +kernel
theorem dX2_init_30 : decode cX2_init 30 = .ok (.newarray .int, 2) := by decide +kernel
theorem dX2_init_32 : decode cX2_init 32 = .ok (.putfield 21, 3) := by decide +kernel
theorem dX2_init_35 : decode cX2_init 35 = .ok (.aload_n 0, 1) := by decide +kernel
theorem dX2_init_36 : decode cX2_init 36 = .ok (.bipush 20, 2) := by decide +kernel
theorem dX2_init_38 : decode cX2_init 38 = .ok (.newarray .int, 2) := by decide +kernel
theorem dX2_init_40 : decode cX2_init 40 = .ok (.putfield 24, 3) := by decide +kernel
theorem dX2_init_43 : decode cX2_init 43 = .ok (.aload_n 0, 1) := by decide +kernel
theorem dX2_init_44 : decode cX2_init 44 = .ok (.iconst 0, 1) := by decide +kernel
theorem dX2_init_45 : decode cX2_init 45 = .ok (.putfield 27, 3) := by decide +kernel
theorem dX2_init_48 : decode cX2_init 48 = .ok (.aload_n 0, 1) := by decide +kernel
theorem dX2_init_49 : decode cX2_init 49 = .ok (.iconst 0, 1) := by decide +kernel
theorem dX2_init_50 : decode cX2_init 50 = .ok (.putfield 31, 3) := by decide +kernel
theorem dX2_init_53 : decode cX2_init 53 = .ok (.aload_n 0, 1) := by decide +kernel
theorem dX2_init_54 : decode cX2_init 54 = .ok (.iconst 0, 1) := by decide +kernel
theorem dX2_init_55 : decode cX2_init 55 = .ok (.putfield 34, 3) := by decide +kernel
theorem dX2_init_58 : decode cX2_init 58 = .ok (.aload_n 0, 1) := by decide +kernel
theorem dX2_init_59 : decode cX2_init 59 = .ok (.iconst (-1), 1) := by decide +kernel
theorem dX2_init_60 : decode cX2_init 60 = .ok (.putfield 37, 3) := by decide +kernel
theorem dX2_init_63 : decode cX2_init 63 = .ok (.return_, 1) := by decide +kernel
theorem dX2_takeHeirs_0 : decode cX2_takeHeirs 0 = .ok (.aload_n 0, 1) := by decide +kernel
theorem dX2_takeHeirs_1 : decode cX2_takeHeirs 1 = .ok (.aload_n 1, 1) := by decide +kernel
theorem dX2_takeHeirs_2 : decode cX2_takeHeirs 2 = .ok (.invokevirtual 40, 3) := by decide +kernel
theorem dX2_takeHeirs_5 : decode cX2_takeHeirs 5 = .ok (.iconst (-1), 1) := by decide +kernel
theorem dX2_takeHeirs_6 : decode cX2_takeHeirs 6 = .ok (.if_icmp .ne 14, 3) := by decide +kernel
theorem dX2_takeHeirs_9 : decode cX2_takeHeirs 9 = .ok (.aload_n 1, 1) := by decide +kernel
theorem dX2_takeHeirs_10 : decode cX2_takeHeirs 10 = .ok (.getfield 46, 3) := by decide +kernel
theorem dX2_takeHeirs_13 : decode cX2_takeHeirs 13 = .ok (.iconst 1, 1) := by decide +kernel
theorem dX2_takeHeirs_14 : decode cX2_takeHeirs 14 = .ok (.iadd, 1) := by decide +kernel
theorem dX2_takeHeirs_15 : decode cX2_takeHeirs 15 = .ok (.iconst 4, 1) := by decide +kernel
theorem dX2_takeHeirs_16 : decode cX2_takeHeirs 16 = .ok (.idiv, 1) := by decide +kernel
theorem dX2_takeHeirs_17 : decode cX2_takeHeirs 17 = .ok (.goto 4, 3) := by decide +kernel
theorem dX2_takeHeirs_20 : decode cX2_takeHeirs 20 = .ok (.iconst 0, 1) := by decide +kernel
theorem dX2_takeHeirs_21 : decode cX2_takeHeirs 21 = .ok (.putfield 27, 3) := by decide +kernel
theorem dX2_takeHeirs_24 : decode cX2_takeHeirs 24 = .ok (.iconst 0, 1) := by decide +kernel
theorem dX2_takeHeirs_25 : decode cX2_takeHeirs 25 = .ok (.istore_n 2, 1) := by decide +kernel
theorem dX2_takeHeirs_26 : decode cX2_takeHeirs 26 = .ok (.iload_n 2, 1) := by decide +kernel
theorem dX2_takeHeirs_27 : decode cX2_takeHeirs 27 = .ok (.aload_n 0, 1) := by decide +kernel
theorem dX2_takeHeirs_28 : decode cX2_takeHeirs 28 = .ok (.getfield 27, 3) := by decide +kernel
theorem dX2_takeHeirs_31 : decode cX2_takeHeirs 31 = .ok (.if_icmp .ge 62, 3) := by decide +kernel
theorem dX2_takeHeirs_34 : decode cX2_takeHeirs 34 = .ok (.iload_n 2, 1) := by decide +kernel
theorem dX2_takeHeirs_35 : decode cX2_takeHeirs 35 = .ok (.iconst 4, 1) := by decide +kernel
theorem dX2_takeHeirs_36 : decode cX2_takeHeirs 36 = .ok (.imul, 1) := by decide +kernel
theorem dX2_takeHeirs_37 : decode cX2_takeHeirs 37 = .ok (.istore_n 3, 1) := by decide +kernel
theorem dX2_takeHeirs_38 : decode cX2_takeHeirs 38 = .ok (.aload_n 0, 1) := by decide +kernel
theorem dX2_takeHeirs_39 : decode cX2_takeHeirs 39 = .ok (.getfield 9, 3) := by decide +kernel
theorem dX2_takeHeirs_42 : decode cX2_takeHeirs 42 = .ok (.iload_n 2, 1) := by decide +kernel
theorem dX2_takeHeirs_43 : decode cX2_takeHeirs 43 = .ok (.aload_n 1, 1) := by decide +kernel
theorem dX2_takeHeirs_44 : decode cX2_takeHeirs 44 = .ok (.getfield 49, 3) := by decide +kernel
theorem dX2_takeHeirs_47 : decode cX2_takeHeirs 47 = .ok (.iload_n 3, 1) := by decide +kernel
theorem dX2_takeHeirs_48 : decode cX2_takeHeirs 48 = .ok (.iaload, 1) := by decide +kernel
theorem dX2_takeHeirs_49 : decode cX2_takeHeirs 49 = .ok (.invokestatic 52, 3) := by decide +kernel
theorem dX2_takeHeirs_52 : decode cX2_takeHeirs 52 = .ok (.iastore, 1) := by decide +kernel
theorem dX2_takeHeirs_53 : decode cX2_takeHeirs 53 = .ok (.aload_n 0, 1) := by decide +kernel
theorem dX2_takeHeirs_54 : decode cX2_takeHeirs 54 = .ok (.getfield 15, 3) := by decide +kernel
theorem dX2_takeHeirs_57 : decode cX2_takeHeirs 57 = .ok (.iload_n 2, 1) := by decide +kernel
theorem dX2_takeHeirs_58 : decode cX2_takeHeirs 58 = .ok (.aload_n 1, 1) := by decide +kernel
theorem dX2_takeHeirs_59 : decode cX2_takeHeirs 59 = .ok (.getfield 49, 3) := by decide +kernel
theorem dX2_takeHeirs_62 : decode cX2_takeHeirs 62 = .ok (.iload_n 3, 1) := by decide +kernel
theorem dX2_takeHeirs_63 : decode cX2_takeHeirs 63 = .ok (.iconst 1, 1) := by decide +kernel
theorem dX2_takeHeirs_64 : decode cX2_takeHeirs 64 = .ok (.iadd, 1) := by decide +kernel
theorem dX2_takeHeirs_65 : decode cX2_takeHeirs 65 = .ok (.iaload, 1) := by decide +kernel
theorem dX2_takeHeirs_66 : decode cX2_takeHeirs 66 = .ok (.bipush 48, 2) := by decide +kernel
theorem dX2_takeHeirs_68 : decode cX2_takeHeirs 68 = .ok (.isub, 1) := by decide +kernel
theorem dX2_takeHeirs_69 : decode cX2_takeHeirs 69 = .ok (.iastore, 1) := by decide +kernel
theorem dX2_takeHeirs_70 : decode cX2_takeHeirs 70 = .ok (.aload_n 0, 1) := by decide +kernel
theorem dX2_takeHeirs_71 : decode cX2_takeHeirs 71 = .ok (.getfield 18, 3) := by decide +kernel
theorem dX2_takeHeirs_74 : decode cX2_takeHeirs 74 = .ok (.iload_n 2, 1) := by decide +kernel
theorem dX2_takeHeirs_75 : decode cX2_takeHeirs 75 = .ok (.aload_n 1, 1) := by decide +kernel
theorem dX2_takeHeirs_76 : decode cX2_takeHeirs 76 = .ok (.getfield 49, 3) := by decide +kernel
theorem dX2_takeHeirs_79 : decode cX2_takeHeirs 79 = .ok (.iload_n 3, 1) := by decide +kernel
theorem dX2_takeHeirs_80 : decode cX2_takeHeirs 80 = .ok (.iconst 2, 1) := by decide +kernel
theorem dX2_takeHeirs_81 : decode cX2_takeHeirs 81 = .ok (.iadd, 1) := by decide +kernel
theorem dX2_takeHeirs_82 : decode cX2_takeHeirs 82 = .ok (.iaload, 1) := by decide +kernel
theorem dX2_takeHeirs_83 : decode cX2_takeHeirs 83 = .ok (.bipush 48, 2) := by decide +kernel
theorem dX2_takeHeirs_85 : decode cX2_takeHeirs 85 = .ok (.isub, 1) := by decide +kernel
theorem dX2_takeHeirs_86 : decode cX2_takeHeirs 86 = .ok (.iastore, 1) := by decide +kernel
theorem dX2_takeHeirs_87 : decode cX2_takeHeirs 87 = .ok (.iinc 2 1, 3) := by decide +kernel
theorem dX2_takeHeirs_90 : decode cX2_takeHeirs 90 = .ok (.goto (-64), 3) := by decide +kernel
theorem dX2_takeHeirs_93 : decode cX2_takeHeirs 93 = .ok (.return_, 1) := by decide +kernel
theorem dX2_takeRound_0 : decode cX2_takeRound 0 = .ok (.aload_n 0, 1) := by decide +kernel
theorem dX2_takeRound_1 : decode cX2_takeRound 1 = .ok (.aload_n 1, 1) := by decide +kernel
theorem dX2_takeRound_2 : decode cX2_takeRound 2 = .ok (.invokevirtual 56, 3) := by decide +kernel
theorem dX2_takeRound_5 : decode cX2_takeRound 5 = .ok (.iconst (-1), 1) := by decide +kernel
theorem dX2_takeRound_6 : decode cX2_takeRound 6 = .ok (.if_icmp .ne 10, 3) := by decide +kernel
theorem dX2_takeRound_9 : decode cX2_takeRound 9 = .ok (.aload_n 1, 1) := by decide +kernel
theorem dX2_takeRound_10 : decode cX2_takeRound 10 = .ok (.getfield 46, 3) := by decide +kernel
theorem dX2_takeRound_13 : decode cX2_takeRound 13 = .ok (.goto 4, 3) := by decide +kernel
theorem dX2_takeRound_16 : decode cX2_takeRound 16 = .ok (.iconst 0, 1) := by decide +kernel
theorem dX2_takeRound_17 : decode cX2_takeRound 17 = .ok (.putfield 31, 3) := by decide +kernel
theorem dX2_takeRound_20 : decode cX2_takeRound 20 = .ok (.iconst 0, 1) := by decide +kernel
theorem dX2_takeRound_21 : decode cX2_takeRound 21 = .ok (.istore_n 2, 1) := by decide +kernel
theorem dX2_takeRound_22 : decode cX2_takeRound 22 = .ok (.iload_n 2, 1) := by decide +kernel
theorem dX2_takeRound_23 : decode cX2_takeRound 23 = .ok (.aload_n 0, 1) := by decide +kernel
theorem dX2_takeRound_24 : decode cX2_takeRound 24 = .ok (.getfield 31, 3) := by decide +kernel
theorem dX2_takeRound_27 : decode cX2_takeRound 27 = .ok (.if_icmp .ge 24, 3) := by decide +kernel
theorem dX2_takeRound_30 : decode cX2_takeRound 30 = .ok (.aload_n 0, 1) := by decide +kernel
theorem dX2_takeRound_31 : decode cX2_takeRound 31 = .ok (.getfield 24, 3) := by decide +kernel
theorem dX2_takeRound_34 : decode cX2_takeRound 34 = .ok (.iload_n 2, 1) := by decide +kernel
theorem dX2_takeRound_35 : decode cX2_takeRound 35 = .ok (.aload_n 1, 1) := by decide +kernel
theorem dX2_takeRound_36 : decode cX2_takeRound 36 = .ok (.getfield 49, 3) := by decide +kernel
theorem dX2_takeRound_39 : decode cX2_takeRound 39 = .ok (.iload_n 2, 1) := by decide +kernel
theorem dX2_takeRound_40 : decode cX2_takeRound 40 = .ok (.iaload, 1) := by decide +kernel
theorem dX2_takeRound_41 : decode cX2_takeRound 41 = .ok (.bipush 97, 2) := by decide +kernel
theorem dX2_takeRound_43 : decode cX2_takeRound 43 = .ok (.isub, 1) := by decide +kernel
theorem dX2_takeRound_44 : decode cX2_takeRound 44 = .ok (.iastore, 1) := by decide +kernel
theorem dX2_takeRound_45 : decode cX2_takeRound 45 = .ok (.iinc 2 1, 3) := by decide +kernel
theorem dX2_takeRound_48 : decode cX2_takeRound 48 = .ok (.goto (-26), 3) := by decide +kernel
theorem dX2_takeRound_51 : decode cX2_takeRound 51 = .ok (.return_, 1) := by decide +kernel
theorem dX2_drawRound_0 : decode cX2_drawRound 0 = .ok (.aload_n 0, 1) := by decide +kernel
theorem dX2_drawRound_1 : decode cX2_drawRound 1 = .ok (.iconst 0, 1) := by decide +kernel
theorem dX2_drawRound_2 : decode cX2_drawRound 2 = .ok (.putfield 31, 3) := by decide +kernel
theorem dX2_drawRound_5 : decode cX2_drawRound 5 = .ok (.aload_n 0, 1) := by decide +kernel
theorem dX2_drawRound_6 : decode cX2_drawRound 6 = .ok (.getfield 27, 3) := by decide +kernel
theorem dX2_drawRound_9 : decode cX2_drawRound 9 = .ok (.ifCond .le 9, 3) := by decide +kernel
theorem dX2_drawRound_12 : decode cX2_drawRound 12 = .ok (.iload_n 2, 1) := by decide +kernel
theorem dX2_drawRound_13 : decode cX2_drawRound 13 = .ok (.bipush 20, 2) := by decide +kernel
theorem dX2_drawRound_15 : decode cX2_drawRound 15 = .ok (.if_icmp .le 4, 3) := by decide +kernel
theorem dX2_drawRound_18 : decode cX2_drawRound 18 = .ok (.return_, 1) := by decide +kernel
theorem dX2_drawRound_19 : decode cX2_drawRound 19 = .ok (.aload_n 0, 1) := by decide +kernel
theorem dX2_drawRound_20 : decode cX2_drawRound 20 = .ok (.iload_n 2, 1) := by decide +kernel
theorem dX2_drawRound_21 : decode cX2_drawRound 21 = .ok (.putfield 31, 3) := by decide +kernel
theorem dX2_drawRound_24 : decode cX2_drawRound 24 = .ok (.iload_n 1, 1) := by decide +kernel
theorem dX2_drawRound_25 : decode cX2_drawRound 25 = .ok (.istore_n 3, 1) := by decide +kernel
theorem dX2_drawRound_26 : decode cX2_drawRound 26 = .ok (.iconst 0, 1) := by decide +kernel
theorem dX2_drawRound_27 : decode cX2_drawRound 27 = .ok (.istore 4, 2) := by decide +kernel
theorem dX2_drawRound_29 : decode cX2_drawRound 29 = .ok (.iload 4, 2) := by decide +kernel
theorem dX2_drawRound_31 : decode cX2_drawRound 31 = .ok (.aload_n 0, 1) := by decide +kernel
theorem dX2_drawRound_32 : decode cX2_drawRound 32 = .ok (.getfield 31, 3) := by decide +kernel
theorem dX2_drawRound_35 : decode cX2_drawRound 35 = .ok (.if_icmp .ge 34, 3) := by decide +kernel
theorem dX2_drawRound_38 : decode cX2_drawRound 38 = .ok (.ldc 59, 2) := by decide +kernel
theorem dX2_drawRound_40 : decode cX2_drawRound 40 = .ok (.iload_n 3, 1) := by decide +kernel
theorem dX2_drawRound_41 : decode cX2_drawRound 41 = .ok (.imul, 1) := by decide +kernel
theorem dX2_drawRound_42 : decode cX2_drawRound 42 = .ok (.sipush 12345, 3) := by decide +kernel
theorem dX2_drawRound_45 : decode cX2_drawRound 45 = .ok (.iadd, 1) := by decide +kernel
theorem dX2_drawRound_46 : decode cX2_drawRound 46 = .ok (.istore_n 3, 1) := by decide +kernel
theorem dX2_drawRound_47 : decode cX2_drawRound 47 = .ok (.aload_n 0, 1) := by decide +kernel
theorem dX2_drawRound_48 : decode cX2_drawRound 48 = .ok (.getfield 24, 3) := by decide +kernel
theorem dX2_drawRound_51 : decode cX2_drawRound 51 = .ok (.iload 4, 2) := by decide +kernel
theorem dX2_drawRound_53 : decode cX2_drawRound 53 = .ok (.iload_n 3, 1) := by decide +kernel
theorem dX2_drawRound_54 : decode cX2_drawRound 54 = .ok (.bipush 16, 2) := by decide +kernel
theorem dX2_drawRound_56 : decode cX2_drawRound 56 = .ok (.iushr, 1) := by decide +kernel
theorem dX2_drawRound_57 : decode cX2_drawRound 57 = .ok (.aload_n 0, 1) := by decide +kernel
theorem dX2_drawRound_58 : decode cX2_drawRound 58 = .ok (.getfield 27, 3) := by decide +kernel
theorem dX2_drawRound_61 : decode cX2_drawRound 61 = .ok (.irem, 1) := by decide +kernel
theorem dX2_drawRound_62 : decode cX2_drawRound 62 = .ok (.iastore, 1) := by decide +kernel
theorem dX2_drawRound_63 : decode cX2_drawRound 63 = .ok (.iinc 4 1, 3) := by decide +kernel
theorem dX2_drawRound_66 : decode cX2_drawRound 66 = .ok (.goto (-37), 3) := by decide +kernel
theorem dX2_drawRound_69 : decode cX2_drawRound 69 = .ok (.return_, 1) := by decide +kernel
theorem dX2_copyFrom_0 : decode cX2_copyFrom 0 = .ok (.aload_n 1, 1) := by decide +kernel
theorem dX2_copyFrom_1 : decode cX2_copyFrom 1 = .ok (.getfield 9, 3) := by decide +kernel
theorem dX2_copyFrom_4 : decode cX2_copyFrom 4 = .ok (.iconst 0, 1) := by decide +kernel
theorem dX2_copyFrom_5 : decode cX2_copyFrom 5 = .ok (.aload_n 0, 1) := by decide +kernel
theorem dX2_copyFrom_6 : decode cX2_copyFrom 6 = .ok (.getfield 9, 3) := by decide +kernel
theorem dX2_copyFrom_9 : decode cX2_copyFrom 9 = .ok (.iconst 0, 1) := by decide +kernel
theorem dX2_copyFrom_10 : decode cX2_copyFrom 10 = .ok (.bipush 8, 2) := by decide +kernel
theorem dX2_copyFrom_12 : decode cX2_copyFrom 12 = .ok (.invokestatic 60, 3) := by decide +kernel
theorem dX2_copyFrom_15 : decode cX2_copyFrom 15 = .ok (.aload_n 1, 1) := by decide +kernel
theorem dX2_copyFrom_16 : decode cX2_copyFrom 16 = .ok (.getfield 15, 3) := by decide +kernel
theorem dX2_copyFrom_19 : decode cX2_copyFrom 19 = .ok (.iconst 0, 1) := by decide +kernel
theorem dX2_copyFrom_20 : decode cX2_copyFrom 20 = .ok (.aload_n 0, 1) := by decide +kernel
theorem dX2_copyFrom_21 : decode cX2_copyFrom 21 = .ok (.getfield 15, 3) := by decide +kernel
theorem dX2_copyFrom_24 : decode cX2_copyFrom 24 = .ok (.iconst 0, 1) := by decide +kernel
theorem dX2_copyFrom_25 : decode cX2_copyFrom 25 = .ok (.bipush 8, 2) := by decide +kernel
theorem dX2_copyFrom_27 : decode cX2_copyFrom 27 = .ok (.invokestatic 60, 3) := by decide +kernel
theorem dX2_copyFrom_30 : decode cX2_copyFrom 30 = .ok (.aload_n 1, 1) := by decide +kernel
theorem dX2_copyFrom_31 : decode cX2_copyFrom 31 = .ok (.getfield 18, 3) := by decide +kernel
theorem dX2_copyFrom_34 : decode cX2_copyFrom 34 = .ok (.iconst 0, 1) := by decide +kernel
theorem dX2_copyFrom_35 : decode cX2_copyFrom 35 = .ok (.aload_n 0, 1) := by decide +kernel
theorem dX2_copyFrom_36 : decode cX2_copyFrom 36 = .ok (.getfield 18, 3) := by decide +kernel
theorem dX2_copyFrom_39 : decode cX2_copyFrom 39 = .ok (.iconst 0, 1) := by decide +kernel
theorem dX2_copyFrom_40 : decode cX2_copyFrom 40 = .ok (.bipush 8, 2) := by decide +kernel
theorem dX2_copyFrom_42 : decode cX2_copyFrom 42 = .ok (.invokestatic 60, 3) := by decide +kernel
theorem dX2_copyFrom_45 : decode cX2_copyFrom 45 = .ok (.aload_n 1, 1) := by decide +kernel
theorem dX2_copyFrom_46 : decode cX2_copyFrom 46 = .ok (.getfield 21, 3) := by decide +kernel
theorem dX2_copyFrom_49 : decode cX2_copyFrom 49 = .ok (.iconst 0, 1) := by decide +kernel
theorem dX2_copyFrom_50 : decode cX2_copyFrom 50 = .ok (.aload_n 0, 1) := by decide +kernel
theorem dX2_copyFrom_51 : decode cX2_copyFrom 51 = .ok (.getfield 21, 3) := by decide +kernel
theorem dX2_copyFrom_54 : decode cX2_copyFrom 54 = .ok (.iconst 0, 1) := by decide +kernel
theorem dX2_copyFrom_55 : decode cX2_copyFrom 55 = .ok (.aload_n 0, 1) := by decide +kernel
theorem dX2_copyFrom_56 : decode cX2_copyFrom 56 = .ok (.getfield 21, 3) := by decide +kernel
theorem dX2_copyFrom_59 : decode cX2_copyFrom 59 = .ok (.arraylength, 1) := by decide +kernel
theorem dX2_copyFrom_60 : decode cX2_copyFrom 60 = .ok (.invokestatic 60, 3) := by decide +kernel
theorem dX2_copyFrom_63 : decode cX2_copyFrom 63 = .ok (.aload_n 1, 1) := by decide +kernel
theorem dX2_copyFrom_64 : decode cX2_copyFrom 64 = .ok (.getfield 24, 3) := by decide +kernel
theorem dX2_copyFrom_67 : decode cX2_copyFrom 67 = .ok (.iconst 0, 1) := by decide +kernel
theorem dX2_copyFrom_68 : decode cX2_copyFrom 68 = .ok (.aload_n 0, 1) := by decide +kernel
theorem dX2_copyFrom_69 : decode cX2_copyFrom 69 = .ok (.getfield 24, 3) := by decide +kernel
theorem dX2_copyFrom_72 : decode cX2_copyFrom 72 = .ok (.iconst 0, 1) := by decide +kernel
theorem dX2_copyFrom_73 : decode cX2_copyFrom 73 = .ok (.bipush 20, 2) := by decide +kernel
theorem dX2_copyFrom_75 : decode cX2_copyFrom 75 = .ok (.invokestatic 60, 3) := by decide +kernel
theorem dX2_copyFrom_78 : decode cX2_copyFrom 78 = .ok (.aload_n 0, 1) := by decide +kernel
theorem dX2_copyFrom_79 : decode cX2_copyFrom 79 = .ok (.aload_n 1, 1) := by decide +kernel
theorem dX2_copyFrom_80 : decode cX2_copyFrom 80 = .ok (.getfield 27, 3) := by decide +kernel
theorem dX2_copyFrom_83 : decode cX2_copyFrom 83 = .ok (.putfield 27, 3) := by decide +kernel
theorem dX2_copyFrom_86 : decode cX2_copyFrom 86 = .ok (.aload_n 0, 1) := by decide +kernel
theorem dX2_copyFrom_87 : decode cX2_copyFrom 87 = .ok (.aload_n 1, 1) := by decide +kernel
theorem dX2_copyFrom_88 : decode cX2_copyFrom 88 = .ok (.getfield 31, 3) := by decide +kernel
theorem dX2_copyFrom_91 : decode cX2_copyFrom 91 = .ok (.putfield 31, 3) := by decide +kernel
theorem dX2_copyFrom_94 : decode cX2_copyFrom 94 = .ok (.aload_n 0, 1) := by decide +kernel
theorem dX2_copyFrom_95 : decode cX2_copyFrom 95 = .ok (.aload_n 1, 1) := by decide +kernel
theorem dX2_copyFrom_96 : decode cX2_copyFrom 96 = .ok (.getfield 34, 3) := by decide +kernel
theorem dX2_copyFrom_99 : decode cX2_copyFrom 99 = .ok (.putfield 34, 3) := by decide +kernel
theorem dX2_copyFrom_102 : decode cX2_copyFrom 102 = .ok (.aload_n 0, 1) := by decide +kernel
theorem dX2_copyFrom_103 : decode cX2_copyFrom 103 = .ok (.aload_n 1, 1) := by decide +kernel
theorem dX2_copyFrom_104 : decode cX2_copyFrom 104 = .ok (.getfield 37, 3) := by decide +kernel
theorem dX2_copyFrom_107 : decode cX2_copyFrom 107 = .ok (.putfield 37, 3) := by decide +kernel
theorem dX2_copyFrom_110 : decode cX2_copyFrom 110 = .ok (.return_, 1) := by decide +kernel
theorem dX2_dreadAt_0 : decode cX2_dreadAt 0 = .ok (.aload_n 0, 1) := by decide +kernel
theorem dX2_dreadAt_1 : decode cX2_dreadAt 1 = .ok (.getfield 21, 3) := by decide +kernel
theorem dX2_dreadAt_4 : decode cX2_dreadAt 4 = .ok (.iconst 1, 1) := by decide +kernel
theorem dX2_dreadAt_5 : decode cX2_dreadAt 5 = .ok (.iaload, 1) := by decide +kernel
theorem dX2_dreadAt_6 : decode cX2_dreadAt 6 = .ok (.istore_n 3, 1) := by decide +kernel
theorem dX2_dreadAt_7 : decode cX2_dreadAt 7 = .ok (.aload_n 0, 1) := by decide +kernel
theorem dX2_dreadAt_8 : decode cX2_dreadAt 8 = .ok (.getfield 34, 3) := by decide +kernel
theorem dX2_dreadAt_11 : decode cX2_dreadAt 11 = .ok (.iload_n 1, 1) := by decide +kernel
theorem dX2_dreadAt_12 : decode cX2_dreadAt 12 = .ok (.ishr, 1) := by decide +kernel
theorem dX2_dreadAt_13 : decode cX2_dreadAt 13 = .ok (.iconst 1, 1) := by decide +kernel
theorem dX2_dreadAt_14 : decode cX2_dreadAt 14 = .ok (.iand, 1) := by decide +kernel
theorem dX2_dreadAt_15 : decode cX2_dreadAt 15 = .ok (.ifCond .eq 6, 3) := by decide +kernel
theorem dX2_dreadAt_18 : decode cX2_dreadAt 18 = .ok (.iinc 3 2, 3) := by decide +kernel
theorem dX2_dreadAt_21 : decode cX2_dreadAt 21 = .ok (.aload_n 0, 1) := by decide +kernel
theorem dX2_dreadAt_22 : decode cX2_dreadAt 22 = .ok (.getfield 9, 3) := by decide +kernel
theorem dX2_dreadAt_25 : decode cX2_dreadAt 25 = .ok (.iload_n 2, 1) := by decide +kernel
theorem dX2_dreadAt_26 : decode cX2_dreadAt 26 = .ok (.iaload, 1) := by decide +kernel
theorem dX2_dreadAt_27 : decode cX2_dreadAt 27 = .ok (.iconst 2, 1) := by decide +kernel
theorem dX2_dreadAt_28 : decode cX2_dreadAt 28 = .ok (.if_icmp .ne 6, 3) := by decide +kernel
theorem dX2_dreadAt_31 : decode cX2_dreadAt 31 = .ok (.iinc 3 2, 3) := by decide +kernel
theorem dX2_dreadAt_34 : decode cX2_dreadAt 34 = .ok (.aload_n 0, 1) := by decide +kernel
theorem dX2_dreadAt_35 : decode cX2_dreadAt 35 = .ok (.getfield 9, 3) := by decide +kernel
theorem dX2_dreadAt_38 : decode cX2_dreadAt 38 = .ok (.iload_n 2, 1) := by decide +kernel
theorem dX2_dreadAt_39 : decode cX2_dreadAt 39 = .ok (.iaload, 1) := by decide +kernel
theorem dX2_dreadAt_40 : decode cX2_dreadAt 40 = .ok (.iconst 1, 1) := by decide +kernel
theorem dX2_dreadAt_41 : decode cX2_dreadAt 41 = .ok (.if_icmp .ne 6, 3) := by decide +kernel
theorem dX2_dreadAt_44 : decode cX2_dreadAt 44 = .ok (.iinc 3 (-1), 3) := by decide +kernel
theorem dX2_dreadAt_47 : decode cX2_dreadAt 47 = .ok (.iload_n 3, 1) := by decide +kernel
theorem dX2_dreadAt_48 : decode cX2_dreadAt 48 = .ok (.ifCond .ge 7, 3) := by decide +kernel
theorem dX2_dreadAt_51 : decode cX2_dreadAt 51 = .ok (.iconst 0, 1) := by decide +kernel
theorem dX2_dreadAt_52 : decode cX2_dreadAt 52 = .ok (.goto 4, 3) := by decide +kernel
theorem dX2_dreadAt_55 : decode cX2_dreadAt 55 = .ok (.iload_n 3, 1) := by decide +kernel
theorem dX2_dreadAt_56 : decode cX2_dreadAt 56 = .ok (.ireturn, 1) := by decide +kernel
theorem dX2_mostGain_0 : decode cX2_mostGain 0 = .ok (.aload_n 0, 1) := by decide +kernel
theorem dX2_mostGain_1 : decode cX2_mostGain 1 = .ok (.getfield 18, 3) := by decide +kernel
theorem dX2_mostGain_4 : decode cX2_mostGain 4 = .ok (.iload_n 1, 1) := by decide +kernel
theorem dX2_mostGain_5 : decode cX2_mostGain 5 = .ok (.iaload, 1) := by decide +kernel
theorem dX2_mostGain_6 : decode cX2_mostGain 6 = .ok (.bipush 9, 2) := by decide +kernel
theorem dX2_mostGain_8 : decode cX2_mostGain 8 = .ok (.aload_n 0, 1) := by decide +kernel
theorem dX2_mostGain_9 : decode cX2_mostGain 9 = .ok (.getfield 21, 3) := by decide +kernel
theorem dX2_mostGain_12 : decode cX2_mostGain 12 = .ok (.iconst 3, 1) := by decide +kernel
theorem dX2_mostGain_13 : decode cX2_mostGain 13 = .ok (.iaload, 1) := by decide +kernel
theorem dX2_mostGain_14 : decode cX2_mostGain 14 = .ok (.invokestatic 66, 3) := by decide +kernel
theorem dX2_mostGain_17 : decode cX2_mostGain 17 = .ok (.invokestatic 66, 3) := by decide +kernel
theorem dX2_mostGain_20 : decode cX2_mostGain 20 = .ok (.istore_n 2, 1) := by decide +kernel
theorem dX2_mostGain_21 : decode cX2_mostGain 21 = .ok (.aload_n 0, 1) := by decide +kernel
theorem dX2_mostGain_22 : decode cX2_mostGain 22 = .ok (.getfield 15, 3) := by decide +kernel
theorem dX2_mostGain_25 : decode cX2_mostGain 25 = .ok (.iload_n 1, 1) := by decide +kernel
theorem dX2_mostGain_26 : decode cX2_mostGain 26 = .ok (.iaload, 1) := by decide +kernel
theorem dX2_mostGain_27 : decode cX2_mostGain 27 = .ok (.iload_n 2, 1) := by decide +kernel
theorem dX2_mostGain_28 : decode cX2_mostGain 28 = .ok (.iadd, 1) := by decide +kernel
theorem dX2_mostGain_29 : decode cX2_mostGain 29 = .ok (.bipush 9, 2) := by decide +kernel
theorem dX2_mostGain_31 : decode cX2_mostGain 31 = .ok (.invokestatic 66, 3) := by decide +kernel
theorem dX2_mostGain_34 : decode cX2_mostGain 34 = .ok (.istore_n 3, 1) := by decide +kernel
theorem dX2_mostGain_35 : decode cX2_mostGain 35 = .ok (.iload_n 2, 1) := by decide +kernel
theorem dX2_mostGain_36 : decode cX2_mostGain 36 = .ok (.ifCond .le 9, 3) := by decide +kernel
theorem dX2_mostGain_39 : decode cX2_mostGain 39 = .ok (.iconst 2, 1) := by decide +kernel
theorem dX2_mostGain_40 : decode cX2_mostGain 40 = .ok (.iload_n 3, 1) := by decide +kernel
theorem dX2_mostGain_41 : decode cX2_mostGain 41 = .ok (.imul, 1) := by decide +kernel
theorem dX2_mostGain_42 : decode cX2_mostGain 42 = .ok (.goto 4, 3) := by decide +kernel
theorem dX2_mostGain_45 : decode cX2_mostGain 45 = .ok (.iload_n 3, 1) := by decide +kernel
theorem dX2_mostGain_46 : decode cX2_mostGain 46 = .ok (.ireturn, 1) := by decide +kernel
theorem dX2_sortOf_0 : decode cX2_sortOf 0 = .ok (.iload_n 0, 1) := by decide +kernel
theorem dX2_sortOf_1 : decode cX2_sortOf 1 = .ok (.bipush 109, 2) := by decide +kernel
theorem dX2_sortOf_3 : decode cX2_sortOf 3 = .ok (.if_icmp .ne 5, 3) := by decide +kernel
theorem dX2_sortOf_6 : decode cX2_sortOf 6 = .ok (.iconst 1, 1) := by decide +kernel
theorem dX2_sortOf_7 : decode cX2_sortOf 7 = .ok (.ireturn, 1) := by decide +kernel
theorem dX2_sortOf_8 : decode cX2_sortOf 8 = .ok (.iload_n 0, 1) := by decide +kernel
theorem dX2_sortOf_9 : decode cX2_sortOf 9 = .ok (.bipush 115, 2) := by decide +kernel
theorem dX2_sortOf_11 : decode cX2_sortOf 11 = .ok (.if_icmp .ne 7, 3) := by decide +kernel
theorem dX2_sortOf_14 : decode cX2_sortOf 14 = .ok (.iconst 2, 1) := by decide +kernel
theorem dX2_sortOf_15 : decode cX2_sortOf 15 = .ok (.goto 4, 3) := by decide +kernel
theorem dX2_sortOf_18 : decode cX2_sortOf 18 = .ok (.iconst 0, 1) := by decide +kernel
theorem dX2_sortOf_19 : decode cX2_sortOf 19 = .ok (.ireturn, 1) := by decide +kernel
theorem dX3_init_0 : decode cX3_init 0 = .ok (.aload_n 0, 1) := by decide +kernel
theorem dX3_init_1 : decode cX3_init 1 = .ok (.invokespecial 3, 3) := by decide +kernel
theorem dX3_init_4 : decode cX3_init 4 = .ok (.aload_n 0, 1) := by decide +kernel
theorem dX3_init_5 : decode cX3_init 5 = .ok (.iconst 0, 1) := by decide +kernel
theorem dX3_init_6 : decode cX3_init 6 = .ok (.putfield 9, 3) := by decide +kernel
theorem dX3_init_9 : decode cX3_init 9 = .ok (.aload_n 0, 1) := by decide +kernel
theorem dX3_init_10 : decode cX3_init 10 = .ok (.iload_n 1, 1) := by decide +kernel
theorem dX3_init_11 : decode cX3_init 11 = .ok (.newarray .int, 2) := by decide +kernel
theorem dX3_init_13 : decode cX3_init 13 = .ok (.putfield 15, 3) := by decide +kernel
theorem dX3_init_16 : decode cX3_init 16 = .ok (.return_, 1) := by decide +kernel
theorem dX3_isFull_0 : decode cX3_isFull 0 = .ok (.aload_n 0, 1) := by decide +kernel
theorem dX3_isFull_1 : decode cX3_isFull 1 = .ok (.getfield 9, 3) := by decide +kernel
theorem dX3_isFull_4 : decode cX3_isFull 4 = .ok (.aload_n 0, 1) := by decide +kernel
theorem dX3_isFull_5 : decode cX3_isFull 5 = .ok (.getfield 15, 3) := by decide +kernel
theorem dX3_isFull_8 : decode cX3_isFull 8 = .ok (.arraylength, 1) := by decide +kernel
theorem dX3_isFull_9 : decode cX3_isFull 9 = .ok (.if_icmp .lt 7, 3) := by decide +kernel
theorem dX3_isFull_12 : decode cX3_isFull 12 = .ok (.iconst 1, 1) := by decide +kernel
theorem dX3_isFull_13 : decode cX3_isFull 13 = .ok (.goto 4, 3) := by decide +kernel
theorem dX3_isFull_16 : decode cX3_isFull 16 = .ok (.iconst 0, 1) := by decide +kernel
theorem dX3_isFull_17 : decode cX3_isFull 17 = .ok (.ireturn, 1) := by decide +kernel
theorem dX3_append_0 : decode cX3_append 0 = .ok (.aload_n 0, 1) := by decide +kernel
theorem dX3_append_1 : decode cX3_append 1 = .ok (.invokevirtual 19, 3) := by decide +kernel
theorem dX3_append_4 : decode cX3_append 4 = .ok (.ifCond .ne 23, 3) := by decide +kernel
theorem dX3_append_7 : decode cX3_append 7 = .ok (.aload_n 0, 1) := by decide +kernel
theorem dX3_append_8 : decode cX3_append 8 = .ok (.getfield 15, 3) := by decide +kernel
theorem dX3_append_11 : decode cX3_append 11 = .ok (.aload_n 0, 1) := by decide +kernel
theorem dX3_append_12 : decode cX3_append 12 = .ok (.getfield 9, 3) := by decide +kernel
theorem dX3_append_15 : decode cX3_append 15 = .ok (.iload_n 1, 1) := by decide +kernel
theorem dX3_append_16 : decode cX3_append 16 = .ok (.iastore, 1) := by decide +kernel
theorem dX3_append_17 : decode cX3_append 17 = .ok (.aload_n 0, 1) := by decide +kernel
theorem dX3_append_18 : decode cX3_append 18 = .ok (.dup, 1) := by decide +kernel
theorem dX3_append_19 : decode cX3_append 19 = .ok (.getfield 9, 3) := by decide +kernel
theorem dX3_append_22 : decode cX3_append 22 = .ok (.iconst 1, 1) := by decide +kernel
theorem dX3_append_23 : decode cX3_append 23 = .ok (.iadd, 1) := by decide +kernel
theorem dX3_append_24 : decode cX3_append 24 = .ok (.putfield 9, 3) := by decide +kernel
theorem dX3_append_27 : decode cX3_append 27 = .ok (.return_, 1) := by decide +kernel
theorem dX3_faultAsHeirs_0 : decode cX3_faultAsHeirs 0 = .ok (.iconst 0, 1) := by decide +kernel
theorem dX3_faultAsHeirs_1 : decode cX3_faultAsHeirs 1 = .ok (.istore_n 1, 1) := by decide +kernel
theorem dX3_faultAsHeirs_2 : decode cX3_faultAsHeirs 2 = .ok (.iload_n 1, 1) := by decide +kernel
theorem dX3_faultAsHeirs_3 : decode cX3_faultAsHeirs 3 = .ok (.aload_n 0, 1) := by decide +kernel
theorem dX3_faultAsHeirs_4 : decode cX3_faultAsHeirs 4 = .ok (.getfield 9, 3) := by decide +kernel
theorem dX3_faultAsHeirs_7 : decode cX3_faultAsHeirs 7 = .ok (.if_icmp .ge 24, 3) := by decide +kernel
theorem dX3_faultAsHeirs_10 : decode cX3_faultAsHeirs 10 = .ok (.iload_n 1, 1) := by decide +kernel
theorem dX3_faultAsHeirs_11 : decode cX3_faultAsHeirs 11 = .ok (.aload_n 0, 1) := by decide +kernel
theorem dX3_faultAsHeirs_12 : decode cX3_faultAsHeirs 12 = .ok (.getfield 15, 3) := by decide +kernel
theorem dX3_faultAsHeirs_15 : decode cX3_faultAsHeirs 15 = .ok (.iload_n 1, 1) := by decide +kernel
theorem dX3_faultAsHeirs_16 : decode cX3_faultAsHeirs 16 = .ok (.iaload, 1) := by decide +kernel
theorem dX3_faultAsHeirs_17 : decode cX3_faultAsHeirs 17 = .ok (.invokestatic 23, 3) := by decide +kernel
theorem dX3_faultAsHeirs_20 : decode cX3_faultAsHeirs 20 = .ok (.ifCond .ne 5, 3) := by decide +kernel
theorem dX3_faultAsHeirs_23 : decode cX3_faultAsHeirs 23 = .ok (.iload_n 1, 1) := by decide +kernel
theorem dX3_faultAsHeirs_24 : decode cX3_faultAsHeirs 24 = .ok (.ireturn, 1) := by decide +kernel
theorem dX3_faultAsHeirs_25 : decode cX3_faultAsHeirs 25 = .ok (.iinc 1 1, 3) := by decide +kernel
theorem dX3_faultAsHeirs_28 : decode cX3_faultAsHeirs 28 = .ok (.goto (-26), 3) := by decide +kernel
theorem dX3_faultAsHeirs_31 : decode cX3_faultAsHeirs 31 = .ok (.aload_n 0, 1) := by decide +kernel
theorem dX3_faultAsHeirs_32 : decode cX3_faultAsHeirs 32 = .ok (.getfield 9, 3) := by decide +kernel
theorem dX3_faultAsHeirs_35 : decode cX3_faultAsHeirs 35 = .ok (.ifCond .eq 13, 3) := by decide +kernel
theorem dX3_faultAsHeirs_38 : decode cX3_faultAsHeirs 38 = .ok (.aload_n 0, 1) := by decide +kernel
theorem dX3_faultAsHeirs_39 : decode cX3_faultAsHeirs 39 = .ok (.getfield 9, 3) := by decide +kernel
theorem dX3_faultAsHeirs_42 : decode cX3_faultAsHeirs 42 = .ok (.iconst 4, 1) := by decide +kernel
theorem dX3_faultAsHeirs_43 : decode cX3_faultAsHeirs 43 = .ok (.irem, 1) := by decide +kernel
theorem dX3_faultAsHeirs_44 : decode cX3_faultAsHeirs 44 = .ok (.iconst 3, 1) := by decide +kernel
theorem dX3_faultAsHeirs_45 : decode cX3_faultAsHeirs 45 = .ok (.if_icmp .ne 7, 3) := by decide +kernel
theorem dX3_faultAsHeirs_48 : decode cX3_faultAsHeirs 48 = .ok (.iconst (-1), 1) := by decide +kernel
theorem dX3_faultAsHeirs_49 : decode cX3_faultAsHeirs 49 = .ok (.goto 7, 3) := by decide +kernel
theorem dX3_faultAsHeirs_52 : decode cX3_faultAsHeirs 52 = .ok (.aload_n 0, 1) := by decide +kernel
theorem dX3_faultAsHeirs_53 : decode cX3_faultAsHeirs 53 = .ok (.getfield 9, 3) := by decide +kernel
theorem dX3_faultAsHeirs_56 : decode cX3_faultAsHeirs 56 = .ok (.ireturn, 1) := by decide +kernel
theorem dX3_faultAsRound_0 : decode cX3_faultAsRound 0 = .ok (.iconst 0, 1) := by decide +kernel
theorem dX3_faultAsRound_1 : decode cX3_faultAsRound 1 = .ok (.istore_n 1, 1) := by decide +kernel
theorem dX3_faultAsRound_2 : decode cX3_faultAsRound 2 = .ok (.iload_n 1, 1) := by decide +kernel
theorem dX3_faultAsRound_3 : decode cX3_faultAsRound 3 = .ok (.aload_n 0, 1) := by decide +kernel
theorem dX3_faultAsRound_4 : decode cX3_faultAsRound 4 = .ok (.getfield 9, 3) := by decide +kernel
theorem dX3_faultAsRound_7 : decode cX3_faultAsRound 7 = .ok (.if_icmp .ge 33, 3) := by decide +kernel
theorem dX3_faultAsRound_10 : decode cX3_faultAsRound 10 = .ok (.aload_n 0, 1) := by decide +kernel
theorem dX3_faultAsRound_11 : decode cX3_faultAsRound 11 = .ok (.getfield 15, 3) := by decide +kernel
theorem dX3_faultAsRound_14 : decode cX3_faultAsRound 14 = .ok (.iload_n 1, 1) := by decide +kernel
theorem dX3_faultAsRound_15 : decode cX3_faultAsRound 15 = .ok (.iaload, 1) := by decide +kernel
theorem dX3_faultAsRound_16 : decode cX3_faultAsRound 16 = .ok (.bipush 97, 2) := by decide +kernel
theorem dX3_faultAsRound_18 : decode cX3_faultAsRound 18 = .ok (.if_icmp .lt 14, 3) := by decide +kernel
theorem dX3_faultAsRound_21 : decode cX3_faultAsRound 21 = .ok (.aload_n 0, 1) := by decide +kernel
theorem dX3_faultAsRound_22 : decode cX3_faultAsRound 22 = .ok (.getfield 15, 3) := by decide +kernel
theorem dX3_faultAsRound_25 : decode cX3_faultAsRound 25 = .ok (.iload_n 1, 1) := by decide +kernel
theorem dX3_faultAsRound_26 : decode cX3_faultAsRound 26 = .ok (.iaload, 1) := by decide +kernel
theorem dX3_faultAsRound_27 : decode cX3_faultAsRound 27 = .ok (.bipush 104, 2) := by decide +kernel
theorem dX3_faultAsRound_29 : decode cX3_faultAsRound 29 = .ok (.if_icmp .le 5, 3) := by decide +kernel
theorem dX3_faultAsRound_32 : decode cX3_faultAsRound 32 = .ok (.iload_n 1, 1) := by decide +kernel
theorem dX3_faultAsRound_33 : decode cX3_faultAsRound 33 = .ok (.ireturn, 1) := by decide +kernel
theorem dX3_faultAsRound_34 : decode cX3_faultAsRound 34 = .ok (.iinc 1 1, 3) := by decide +kernel
theorem dX3_faultAsRound_37 : decode cX3_faultAsRound 37 = .ok (.goto (-35), 3) := by decide +kernel
theorem dX3_faultAsRound_40 : decode cX3_faultAsRound 40 = .ok (.iconst (-1), 1) := by decide +kernel
theorem dX3_faultAsRound_41 : decode cX3_faultAsRound 41 = .ok (.ireturn, 1) := by decide +kernel
theorem dX3_fitsHeirs_0 : decode cX3_fitsHeirs 0 = .ok (.iload_n 0, 1) := by decide +kernel
theorem dX3_fitsHeirs_1 : decode cX3_fitsHeirs 1 = .ok (.iconst 4, 1) := by decide +kernel
theorem dX3_fitsHeirs_2 : decode cX3_fitsHeirs 2 = .ok (.irem, 1) := by decide +kernel
theorem dX3_fitsHeirs_3 : decode cX3_fitsHeirs 3 = .ok (.lookupswitch 69 #[(0, 25), (3, 57)], 25) := by decide +kernel
theorem dX3_fitsHeirs_28 : decode cX3_fitsHeirs 28 = .ok (.iload_n 0, 1) := by decide +kernel
theorem dX3_fitsHeirs_29 : decode cX3_fitsHeirs 29 = .ok (.iconst 4, 1) := by decide +kernel
theorem dX3_fitsHeirs_30 : decode cX3_fitsHeirs 30 = .ok (.idiv, 1) := by decide +kernel
theorem dX3_fitsHeirs_31 : decode cX3_fitsHeirs 31 = .ok (.bipush 8, 2) := by decide +kernel
theorem dX3_fitsHeirs_33 : decode cX3_fitsHeirs 33 = .ok (.if_icmp .ge 25, 3) := by decide +kernel
theorem dX3_fitsHeirs_36 : decode cX3_fitsHeirs 36 = .ok (.iload_n 1, 1) := by decide +kernel
theorem dX3_fitsHeirs_37 : decode cX3_fitsHeirs 37 = .ok (.bipush 107, 2) := by decide +kernel
theorem dX3_fitsHeirs_39 : decode cX3_fitsHeirs 39 = .ok (.if_icmp .eq 15, 3) := by decide +kernel
theorem dX3_fitsHeirs_42 : decode cX3_fitsHeirs 42 = .ok (.iload_n 1, 1) := by decide +kernel
theorem dX3_fitsHeirs_43 : decode cX3_fitsHeirs 43 = .ok (.bipush 109, 2) := by decide +kernel
theorem dX3_fitsHeirs_45 : decode cX3_fitsHeirs 45 = .ok (.if_icmp .eq 9, 3) := by decide +kernel
theorem dX3_fitsHeirs_48 : decode cX3_fitsHeirs 48 = .ok (.iload_n 1, 1) := by decide +kernel
theorem dX3_fitsHeirs_49 : decode cX3_fitsHeirs 49 = .ok (.bipush 115, 2) := by decide +kernel
theorem dX3_fitsHeirs_51 : decode cX3_fitsHeirs 51 = .ok (.if_icmp .ne 7, 3) := by decide +kernel
theorem dX3_fitsHeirs_54 : decode cX3_fitsHeirs 54 = .ok (.iconst 1, 1) := by decide +kernel
theorem dX3_fitsHeirs_55 : decode cX3_fitsHeirs 55 = .ok (.goto 4, 3) := by decide +kernel
theorem dX3_fitsHeirs_58 : decode cX3_fitsHeirs 58 = .ok (.iconst 0, 1) := by decide +kernel
theorem dX3_fitsHeirs_59 : decode cX3_fitsHeirs 59 = .ok (.ireturn, 1) := by decide +kernel
theorem dX3_fitsHeirs_60 : decode cX3_fitsHeirs 60 = .ok (.iload_n 1, 1) := by decide +kernel
theorem dX3_fitsHeirs_61 : decode cX3_fitsHeirs 61 = .ok (.bipush 59, 2) := by decide +kernel
theorem dX3_fitsHeirs_63 : decode cX3_fitsHeirs 63 = .ok (.if_icmp .ne 7, 3) := by decide +kernel
theorem dX3_fitsHeirs_66 : decode cX3_fitsHeirs 66 = .ok (.iconst 1, 1) := by decide +kernel
theorem dX3_fitsHeirs_67 : decode cX3_fitsHeirs 67 = .ok (.goto 4, 3) := by decide +kernel
theorem dX3_fitsHeirs_70 : decode cX3_fitsHeirs 70 = .ok (.iconst 0, 1) := by decide +kernel
theorem dX3_fitsHeirs_71 : decode cX3_fitsHeirs 71 = .ok (.ireturn, 1) := by decide +kernel
theorem dX3_fitsHeirs_72 : decode cX3_fitsHeirs 72 = .ok (.iload_n 1, 1) := by decide +kernel
theorem dX3_fitsHeirs_73 : decode cX3_fitsHeirs 73 = .ok (.bipush 48, 2) := by decide +kernel
theorem dX3_fitsHeirs_75 : decode cX3_fitsHeirs 75 = .ok (.if_icmp .lt 13, 3) := by decide +kernel
theorem dX3_fitsHeirs_78 : decode cX3_fitsHeirs 78 = .ok (.iload_n 1, 1) := by decide +kernel
theorem dX3_fitsHeirs_79 : decode cX3_fitsHeirs 79 = .ok (.bipush 57, 2) := by decide +kernel
theorem dX3_fitsHeirs_81 : decode cX3_fitsHeirs 81 = .ok (.if_icmp .gt 7, 3) := by decide +kernel
theorem dX3_fitsHeirs_84 : decode cX3_fitsHeirs 84 = .ok (.iconst 1, 1) := by decide +kernel
theorem dX3_fitsHeirs_85 : decode cX3_fitsHeirs 85 = .ok (.goto 4, 3) := by decide +kernel
theorem dX3_fitsHeirs_88 : decode cX3_fitsHeirs 88 = .ok (.iconst 0, 1) := by decide +kernel
theorem dX3_fitsHeirs_89 : decode cX3_fitsHeirs 89 = .ok (.ireturn, 1) := by decide +kernel
theorem dX4_init_0 : decode cX4_init 0 = .ok (.aload_n 0, 1) := by decide +kernel
theorem dX4_init_1 : decode cX4_init 1 = .ok (.invokespecial 3, 3) := by decide +kernel
theorem dX4_init_4 : decode cX4_init 4 = .ok (.aload_n 0, 1) := by decide +kernel
theorem dX4_init_5 : decode cX4_init 5 = .ok (.bipush 60, 2) := by decide +kernel
theorem dX4_init_7 : decode cX4_init 7 = .ok (.newarray .int, 2) := by decide +kernel
theorem dX4_init_9 : decode cX4_init 9 = .ok (.putfield 9, 3) := by decide +kernel
theorem dX4_init_12 : decode cX4_init 12 = .ok (.aload_n 0, 1) := by decide +kernel
theorem dX4_init_13 : decode cX4_init 13 = .ok (.iconst 1, 1) := by decide +kernel
theorem dX4_init_14 : decode cX4_init 14 = .ok (.putfield 15, 3) := by decide +kernel
theorem dX4_init_17 : decode cX4_init 17 = .ok (.aload_n 0, 1) := by decide +kernel
theorem dX4_init_18 : decode cX4_init 18 = .ok (.iconst 0, 1) := by decide +kernel
theorem dX4_init_19 : decode cX4_init 19 = .ok (.putfield 19, 3) := by decide +kernel
theorem dX4_init_22 : decode cX4_init 22 = .ok (.aload_n 0, 1) := by decide +kernel
theorem dX4_init_23 : decode cX4_init 23 = .ok (.iconst 0, 1) := by decide +kernel
theorem dX4_init_24 : decode cX4_init 24 = .ok (.putfield 23, 3) := by decide +kernel
theorem dX4_init_27 : decode cX4_init 27 = .ok (.return_, 1) := by decide +kernel
theorem dX4_renew_0 : decode cX4_renew 0 = .ok (.aload_n 0, 1) := by decide +kernel
theorem dX4_renew_1 : decode cX4_renew 1 = .ok (.iconst 0, 1) := by decide +kernel
theorem dX4_renew_2 : decode cX4_renew 2 = .ok (.putfield 15, 3) := by decide +kernel
theorem dX4_renew_5 : decode cX4_renew 5 = .ok (.aload_n 0, 1) := by decide +kernel
theorem dX4_renew_6 : decode cX4_renew 6 = .ok (.iload_n 1, 1) := by decide +kernel
theorem dX4_renew_7 : decode cX4_renew 7 = .ok (.putfield 19, 3) := by decide +kernel
theorem dX4_renew_10 : decode cX4_renew 10 = .ok (.aload_n 0, 1) := by decide +kernel
theorem dX4_renew_11 : decode cX4_renew 11 = .ok (.iload_n 2, 1) := by decide +kernel
theorem dX4_renew_12 : decode cX4_renew 12 = .ok (.putfield 23, 3) := by decide +kernel
theorem dX4_renew_15 : decode cX4_renew 15 = .ok (.aload_n 0, 1) := by decide +kernel
theorem dX4_renew_16 : decode cX4_renew 16 = .ok (.getfield 9, 3) := by decide +kernel
theorem dX4_renew_19 : decode cX4_renew 19 = .ok (.iconst 0, 1) := by decide +kernel
theorem dX4_renew_20 : decode cX4_renew 20 = .ok (.invokestatic 26, 3) := by decide +kernel
theorem dX4_renew_23 : decode cX4_renew 23 = .ok (.return_, 1) := by decide +kernel
theorem dX4_faultOf_0 : decode cX4_faultOf 0 = .ok (.aload_n 0, 1) := by decide +kernel
theorem dX4_faultOf_1 : decode cX4_faultOf 1 = .ok (.getfield 15, 3) := by decide +kernel
theorem dX4_faultOf_4 : decode cX4_faultOf 4 = .ok (.ifCond .eq 5, 3) := by decide +kernel
theorem dX4_faultOf_7 : decode cX4_faultOf 7 = .ok (.iconst 1, 1) := by decide +kernel
theorem dX4_faultOf_8 : decode cX4_faultOf 8 = .ok (.ireturn, 1) := by decide +kernel
theorem dX4_faultOf_9 : decode cX4_faultOf 9 = .ok (.aload_n 0, 1) := by decide +kernel
theorem dX4_faultOf_10 : decode cX4_faultOf 10 = .ok (.getfield 19, 3) := by decide +kernel
theorem dX4_faultOf_13 : decode cX4_faultOf 13 = .ok (.iload_n 1, 1) := by decide +kernel
theorem dX4_faultOf_14 : decode cX4_faultOf 14 = .ok (.if_icmp .eq 5, 3) := by decide +kernel
theorem dX4_faultOf_17 : decode cX4_faultOf 17 = .ok (.iconst 3, 1) := by decide +kernel
theorem dX4_faultOf_18 : decode cX4_faultOf 18 = .ok (.ireturn, 1) := by decide +kernel
theorem dX4_faultOf_19 : decode cX4_faultOf 19 = .ok (.iload_n 2, 1) := by decide +kernel
theorem dX4_faultOf_20 : decode cX4_faultOf 20 = .ok (.ifCond .lt 11, 3) := by decide +kernel
theorem dX4_faultOf_23 : decode cX4_faultOf 23 = .ok (.iload_n 2, 1) := by decide +kernel
theorem dX4_faultOf_24 : decode cX4_faultOf 24 = .ok (.aload_n 0, 1) := by decide +kernel
theorem dX4_faultOf_25 : decode cX4_faultOf 25 = .ok (.getfield 23, 3) := by decide +kernel
theorem dX4_faultOf_28 : decode cX4_faultOf 28 = .ok (.if_icmp .lt 7, 3) := by decide +kernel
theorem dX4_faultOf_31 : decode cX4_faultOf 31 = .ok (.iconst 2, 1) := by decide +kernel
theorem dX4_faultOf_32 : decode cX4_faultOf 32 = .ok (.goto 4, 3) := by decide +kernel
theorem dX4_faultOf_35 : decode cX4_faultOf 35 = .ok (.iconst 0, 1) := by decide +kernel
theorem dX4_faultOf_36 : decode cX4_faultOf 36 = .ok (.ireturn, 1) := by decide +kernel
theorem dX4_hasRange_0 : decode cX4_hasRange 0 = .ok (.iload_n 1, 1) := by decide +kernel
theorem dX4_hasRange_1 : decode cX4_hasRange 1 = .ok (.ifCond .lt 29, 3) := by decide +kernel
theorem dX4_hasRange_4 : decode cX4_hasRange 4 = .ok (.iload_n 2, 1) := by decide +kernel
theorem dX4_hasRange_5 : decode cX4_hasRange 5 = .ok (.ifCond .lt 25, 3) := by decide +kernel
theorem dX4_hasRange_8 : decode cX4_hasRange 8 = .ok (.iload_n 2, 1) := by decide +kernel
theorem dX4_hasRange_9 : decode cX4_hasRange 9 = .ok (.aload_n 0, 1) := by decide +kernel
theorem dX4_hasRange_10 : decode cX4_hasRange 10 = .ok (.getfield 23, 3) := by decide +kernel
theorem dX4_hasRange_13 : decode cX4_hasRange 13 = .ok (.if_icmp .gt 17, 3) := by decide +kernel
theorem dX4_hasRange_16 : decode cX4_hasRange 16 = .ok (.iload_n 1, 1) := by decide +kernel
theorem dX4_hasRange_17 : decode cX4_hasRange 17 = .ok (.aload_n 0, 1) := by decide +kernel
theorem dX4_hasRange_18 : decode cX4_hasRange 18 = .ok (.getfield 23, 3) := by decide +kernel
theorem dX4_hasRange_21 : decode cX4_hasRange 21 = .ok (.iload_n 2, 1) := by decide +kernel
theorem dX4_hasRange_22 : decode cX4_hasRange 22 = .ok (.isub, 1) := by decide +kernel
theorem dX4_hasRange_23 : decode cX4_hasRange 23 = .ok (.if_icmp .gt 7, 3) := by decide +kernel
theorem dX4_hasRange_26 : decode cX4_hasRange 26 = .ok (.iconst 1, 1) := by decide +kernel
theorem dX4_hasRange_27 : decode cX4_hasRange 27 = .ok (.goto 4, 3) := by decide +kernel
theorem dX4_hasRange_30 : decode cX4_hasRange 30 = .ok (.iconst 0, 1) := by decide +kernel
theorem dX4_hasRange_31 : decode cX4_hasRange 31 = .ok (.ireturn, 1) := by decide +kernel
theorem dX4_store_0 : decode cX4_store 0 = .ok (.aload_n 0, 1) := by decide +kernel
theorem dX4_store_1 : decode cX4_store 1 = .ok (.getfield 19, 3) := by decide +kernel
theorem dX4_store_4 : decode cX4_store 4 = .ok (.lookupswitch 50 #[(0, 28), (1, 39)], 28) := by decide +kernel
theorem dX4_store_32 : decode cX4_store 32 = .ok (.aload_n 0, 1) := by decide +kernel
theorem dX4_store_33 : decode cX4_store 33 = .ok (.getfield 9, 3) := by decide +kernel
theorem dX4_store_36 : decode cX4_store 36 = .ok (.iload_n 1, 1) := by decide +kernel
theorem dX4_store_37 : decode cX4_store 37 = .ok (.iload_n 2, 1) := by decide +kernel
theorem dX4_store_38 : decode cX4_store 38 = .ok (.i2b, 1) := by decide +kernel
theorem dX4_store_39 : decode cX4_store 39 = .ok (.iastore, 1) := by decide +kernel
theorem dX4_store_40 : decode cX4_store 40 = .ok (.goto 21, 3) := by decide +kernel
theorem dX4_store_43 : decode cX4_store 43 = .ok (.aload_n 0, 1) := by decide +kernel
theorem dX4_store_44 : decode cX4_store 44 = .ok (.getfield 9, 3) := by decide +kernel
theorem dX4_store_47 : decode cX4_store 47 = .ok (.iload_n 1, 1) := by decide +kernel
theorem dX4_store_48 : decode cX4_store 48 = .ok (.iload_n 2, 1) := by decide +kernel
theorem dX4_store_49 : decode cX4_store 49 = .ok (.i2s, 1) := by decide +kernel
theorem dX4_store_50 : decode cX4_store 50 = .ok (.iastore, 1) := by decide +kernel
theorem dX4_store_51 : decode cX4_store 51 = .ok (.goto 10, 3) := by decide +kernel
theorem dX4_store_54 : decode cX4_store 54 = .ok (.aload_n 0, 1) := by decide +kernel
theorem dX4_store_55 : decode cX4_store 55 = .ok (.getfield 9, 3) := by decide +kernel
theorem dX4_store_58 : decode cX4_store 58 = .ok (.iload_n 1, 1) := by decide +kernel
theorem dX4_store_59 : decode cX4_store 59 = .ok (.iload_n 2, 1) := by decide +kernel
theorem dX4_store_60 : decode cX4_store 60 = .ok (.iastore, 1) := by decide +kernel
theorem dX4_store_61 : decode cX4_store 61 = .ok (.return_, 1) := by decide +kernel
theorem dX5_init_0 : decode cX5_init 0 = .ok (.aload_n 0, 1) := by decide +kernel
theorem dX5_init_1 : decode cX5_init 1 = .ok (.invokespecial 3, 3) := by decide +kernel
theorem dX5_init_4 : decode cX5_init 4 = .ok (.aload_n 0, 1) := by decide +kernel
theorem dX5_init_5 : decode cX5_init 5 = .ok (.new 9, 3) := by decide +kernel
theorem dX5_init_8 : decode cX5_init 8 = .ok (.dup, 1) := by decide +kernel
theorem dX5_init_9 : decode cX5_init 9 = .ok (.invokespecial 11, 3) := by decide +kernel
theorem dX5_init_12 : decode cX5_init 12 = .ok (.putfield 12, 3) := by decide +kernel
theorem dX5_init_15 : decode cX5_init 15 = .ok (.aload_n 0, 1) := by decide +kernel
theorem dX5_init_16 : decode cX5_init 16 = .ok (.bipush 20, 2) := by decide +kernel
theorem dX5_init_18 : decode cX5_init 18 = .ok (.newarray .int, 2) := by decide +kernel
theorem dX5_init_20 : decode cX5_init 20 = .ok (.putfield 18, 3) := by decide +kernel
theorem dX5_init_23 : decode cX5_init 23 = .ok (.aload_n 0, 1) := by decide +kernel
theorem dX5_init_24 : decode cX5_init 24 = .ok (.bipush 20, 2) := by decide +kernel
theorem dX5_init_26 : decode cX5_init 26 = .ok (.newarray .int, 2) := by decide +kernel
theorem dX5_init_28 : decode cX5_init 28 = .ok (.putfield 22, 3) := by decide +kernel
theorem dX5_init_31 : decode cX5_init 31 = .ok (.aload_n 0, 1) := by decide +kernel
theorem dX5_init_32 : decode cX5_init 32 = .ok (.bipush 20, 2) := by decide +kernel
theorem dX5_init_34 : decode cX5_init 34 = .ok (.newarray .int, 2) := by decide +kernel
theorem dX5_init_36 : decode cX5_init 36 = .ok (.putfield 25, 3) := by decide +kernel
theorem dX5_init_39 : decode cX5_init 39 = .ok (.aload_n 0, 1) := by decide +kernel
theorem dX5_init_40 : decode cX5_init 40 = .ok (.bipush 20, 2) := by decide +kernel
theorem dX5_init_42 : decode cX5_init 42 = .ok (.newarray .int, 2) := by decide +kernel
theorem dX5_init_44 : decode cX5_init 44 = .ok (.putfield 28, 3) := by decide +kernel
theorem dX5_init_47 : decode cX5_init 47 = .ok (.aload_n 0, 1) := by decide +kernel
theorem dX5_init_48 : decode cX5_init 48 = .ok (.sipush 168, 3) := by decide +kernel
theorem dX5_init_51 : decode cX5_init 51 = .ok (.newarray .int, 2) := by decide +kernel
theorem dX5_init_53 : decode cX5_init 53 = .ok (.putfield 31, 3) := by decide +kernel
theorem dX5_init_56 : decode cX5_init 56 = .ok (.aload_n 0, 1) := by decide +kernel
theorem dX5_init_57 : decode cX5_init 57 = .ok (.sipush 168, 3) := by decide +kernel
theorem dX5_init_60 : decode cX5_init 60 = .ok (.newarray .int, 2) := by decide +kernel
theorem dX5_init_62 : decode cX5_init 62 = .ok (.putfield 34, 3) := by decide +kernel
theorem dX5_init_65 : decode cX5_init 65 = .ok (.aload_n 0, 1) := by decide +kernel
theorem dX5_init_66 : decode cX5_init 66 = .ok (.sipush 168, 3) := by decide +kernel
theorem dX5_init_69 : decode cX5_init 69 = .ok (.newarray .int, 2) := by decide +kernel
theorem dX5_init_71 : decode cX5_init 71 = .ok (.putfield 37, 3) := by decide +kernel
theorem dX5_init_74 : decode cX5_init 74 = .ok (.aload_n 0, 1) := by decide +kernel
theorem dX5_init_75 : decode cX5_init 75 = .ok (.iconst (-1), 1) := by decide +kernel
theorem dX5_init_76 : decode cX5_init 76 = .ok (.putfield 40, 3) := by decide +kernel
theorem dX5_init_79 : decode cX5_init 79 = .ok (.return_, 1) := by decide +kernel
theorem dX5_tell_0 : decode cX5_tell 0 = .ok (.aload_n 0, 1) := by decide +kernel
theorem dX5_tell_1 : decode cX5_tell 1 = .ok (.getfield 12, 3) := by decide +kernel
theorem dX5_tell_4 : decode cX5_tell 4 = .ok (.aload_n 1, 1) := by decide +kernel
theorem dX5_tell_5 : decode cX5_tell 5 = .ok (.invokevirtual 44, 3) := by decide +kernel
theorem dX5_tell_8 : decode cX5_tell 8 = .ok (.aload_n 0, 1) := by decide +kernel
theorem dX5_tell_9 : decode cX5_tell 9 = .ok (.iconst 0, 1) := by decide +kernel
theorem dX5_tell_10 : decode cX5_tell 10 = .ok (.invokevirtual 48, 3) := by decide +kernel
theorem dX5_tell_13 : decode cX5_tell 13 = .ok (.aload_n 0, 1) := by decide +kernel
theorem dX5_tell_14 : decode cX5_tell 14 = .ok (.iconst (-1), 1) := by decide +kernel
theorem dX5_tell_15 : decode cX5_tell 15 = .ok (.putfield 40, 3) := by decide +kernel
theorem dX5_tell_18 : decode cX5_tell 18 = .ok (.iconst 0, 1) := by decide +kernel
theorem dX5_tell_19 : decode cX5_tell 19 = .ok (.istore_n 2, 1) := by decide +kernel
theorem dX5_tell_20 : decode cX5_tell 20 = .ok (.iconst 0, 1) := by decide +kernel
theorem dX5_tell_21 : decode cX5_tell 21 = .ok (.istore_n 3, 1) := by decide +kernel
theorem dX5_tell_22 : decode cX5_tell 22 = .ok (.iload_n 3, 1) := by decide +kernel
theorem dX5_tell_23 : decode cX5_tell 23 = .ok (.aload_n 1, 1) := by decide +kernel
theorem dX5_tell_24 : decode cX5_tell 24 = .ok (.getfield 52, 3) := by decide +kernel
theorem dX5_tell_27 : decode cX5_tell 27 = .ok (.if_icmp .ge 107, 3) := by decide +kernel
theorem dX5_tell_30 : decode cX5_tell 30 = .ok (.aload_n 0, 1) := by decide +kernel
theorem dX5_tell_31 : decode cX5_tell 31 = .ok (.getfield 25, 3) := by decide +kernel
theorem dX5_tell_34 : decode cX5_tell 34 = .ok (.iload_n 3, 1) := by decide +kernel
theorem dX5_tell_35 : decode cX5_tell 35 = .ok (.aload_n 0, 1) := by decide +kernel
theorem dX5_tell_36 : decode cX5_tell 36 = .ok (.getfield 12, 3) := by decide +kernel
theorem dX5_tell_39 : decode cX5_tell 39 = .ok (.getfield 57, 3) := by decide +kernel
theorem dX5_tell_42 : decode cX5_tell 42 = .ok (.iastore, 1) := by decide +kernel
theorem dX5_tell_43 : decode cX5_tell 43 = .ok (.aload_n 0, 1) := by decide +kernel
theorem dX5_tell_44 : decode cX5_tell 44 = .ok (.getfield 12, 3) := by decide +kernel
theorem dX5_tell_47 : decode cX5_tell 47 = .ok (.aload_n 1, 1) := by decide +kernel
theorem dX5_tell_48 : decode cX5_tell 48 = .ok (.iload_n 3, 1) := by decide +kernel
theorem dX5_tell_49 : decode cX5_tell 49 = .ok (.aload_n 1, 1) := by decide +kernel
theorem dX5_tell_50 : decode cX5_tell 50 = .ok (.getfield 59, 3) := by decide +kernel
theorem dX5_tell_53 : decode cX5_tell 53 = .ok (.iload_n 3, 1) := by decide +kernel
theorem dX5_tell_54 : decode cX5_tell 54 = .ok (.iaload, 1) := by decide +kernel
theorem dX5_tell_55 : decode cX5_tell 55 = .ok (.invokevirtual 62, 3) := by decide +kernel
theorem dX5_tell_58 : decode cX5_tell 58 = .ok (.aload_n 0, 1) := by decide +kernel
theorem dX5_tell_59 : decode cX5_tell 59 = .ok (.getfield 18, 3) := by decide +kernel
theorem dX5_tell_62 : decode cX5_tell 62 = .ok (.iload_n 3, 1) := by decide +kernel
theorem dX5_tell_63 : decode cX5_tell 63 = .ok (.aload_n 0, 1) := by decide +kernel
theorem dX5_tell_64 : decode cX5_tell 64 = .ok (.getfield 12, 3) := by decide +kernel
theorem dX5_tell_67 : decode cX5_tell 67 = .ok (.getfield 66, 3) := by decide +kernel
theorem dX5_tell_70 : decode cX5_tell 70 = .ok (.iastore, 1) := by decide +kernel
theorem dX5_tell_71 : decode cX5_tell 71 = .ok (.aload_n 0, 1) := by decide +kernel
theorem dX5_tell_72 : decode cX5_tell 72 = .ok (.getfield 22, 3) := by decide +kernel
theorem dX5_tell_75 : decode cX5_tell 75 = .ok (.iload_n 3, 1) := by decide +kernel
theorem dX5_tell_76 : decode cX5_tell 76 = .ok (.aload_n 0, 1) := by decide +kernel
theorem dX5_tell_77 : decode cX5_tell 77 = .ok (.getfield 12, 3) := by decide +kernel
theorem dX5_tell_80 : decode cX5_tell 80 = .ok (.getfield 68, 3) := by decide +kernel
theorem dX5_tell_83 : decode cX5_tell 83 = .ok (.iastore, 1) := by decide +kernel
theorem dX5_tell_84 : decode cX5_tell 84 = .ok (.aload_n 0, 1) := by decide +kernel
theorem dX5_tell_85 : decode cX5_tell 85 = .ok (.getfield 28, 3) := by decide +kernel
theorem dX5_tell_88 : decode cX5_tell 88 = .ok (.iload_n 3, 1) := by decide +kernel
theorem dX5_tell_89 : decode cX5_tell 89 = .ok (.aload_n 0, 1) := by decide +kernel
theorem dX5_tell_90 : decode cX5_tell 90 = .ok (.getfield 12, 3) := by decide +kernel
theorem dX5_tell_93 : decode cX5_tell 93 = .ok (.getfield 70, 3) := by decide +kernel
theorem dX5_tell_96 : decode cX5_tell 96 = .ok (.iastore, 1) := by decide +kernel
theorem dX5_tell_97 : decode cX5_tell 97 = .ok (.aload_n 0, 1) := by decide +kernel
theorem dX5_tell_98 : decode cX5_tell 98 = .ok (.getfield 12, 3) := by decide +kernel
theorem dX5_tell_101 : decode cX5_tell 101 = .ok (.getfield 72, 3) := by decide +kernel
theorem dX5_tell_104 : decode cX5_tell 104 = .ok (.iload_n 2, 1) := by decide +kernel
theorem dX5_tell_105 : decode cX5_tell 105 = .ok (.if_icmp .le 16, 3) := by decide +kernel
theorem dX5_tell_108 : decode cX5_tell 108 = .ok (.aload_n 0, 1) := by decide +kernel
theorem dX5_tell_109 : decode cX5_tell 109 = .ok (.getfield 12, 3) := by decide +kernel
theorem dX5_tell_112 : decode cX5_tell 112 = .ok (.getfield 72, 3) := by decide +kernel
theorem dX5_tell_115 : decode cX5_tell 115 = .ok (.istore_n 2, 1) := by decide +kernel
theorem dX5_tell_116 : decode cX5_tell 116 = .ok (.aload_n 0, 1) := by decide +kernel
theorem dX5_tell_117 : decode cX5_tell 117 = .ok (.iload_n 3, 1) := by decide +kernel
theorem dX5_tell_118 : decode cX5_tell 118 = .ok (.putfield 40, 3) := by decide +kernel
theorem dX5_tell_121 : decode cX5_tell 121 = .ok (.aload_n 0, 1) := by decide +kernel
theorem dX5_tell_122 : decode cX5_tell 122 = .ok (.iload_n 3, 1) := by decide +kernel
theorem dX5_tell_123 : decode cX5_tell 123 = .ok (.iconst 1, 1) := by decide +kernel
theorem dX5_tell_124 : decode cX5_tell 124 = .ok (.iadd, 1) := by decide +kernel
theorem dX5_tell_125 : decode cX5_tell 125 = .ok (.invokevirtual 48, 3) := by decide +kernel
theorem dX5_tell_128 : decode cX5_tell 128 = .ok (.iinc 3 1, 3) := by decide +kernel
theorem dX5_tell_131 : decode cX5_tell 131 = .ok (.goto (-109), 3) := by decide +kernel
theorem dX5_tell_134 : decode cX5_tell 134 = .ok (.return_, 1) := by decide +kernel
theorem dX5_keep_0 : decode cX5_keep 0 = .ok (.aload_n 0, 1) := by decide +kernel
theorem dX5_keep_1 : decode cX5_keep 1 = .ok (.getfield 12, 3) := by decide +kernel
theorem dX5_keep_4 : decode cX5_keep 4 = .ok (.getfield 75, 3) := by decide +kernel
theorem dX5_keep_7 : decode cX5_keep 7 = .ok (.iconst 0, 1) := by decide +kernel
theorem dX5_keep_8 : decode cX5_keep 8 = .ok (.aload_n 0, 1) := by decide +kernel
theorem dX5_keep_9 : decode cX5_keep 9 = .ok (.getfield 31, 3) := by decide +kernel
theorem dX5_keep_12 : decode cX5_keep 12 = .ok (.iload_n 1, 1) := by decide +kernel
theorem dX5_keep_13 : decode cX5_keep 13 = .ok (.bipush 8, 2) := by decide +kernel
theorem dX5_keep_15 : decode cX5_keep 15 = .ok (.imul, 1) := by decide +kernel
theorem dX5_keep_16 : decode cX5_keep 16 = .ok (.bipush 8, 2) := by decide +kernel
theorem dX5_keep_18 : decode cX5_keep 18 = .ok (.invokestatic 78, 3) := by decide +kernel
theorem dX5_keep_21 : decode cX5_keep 21 = .ok (.aload_n 0, 1) := by decide +kernel
theorem dX5_keep_22 : decode cX5_keep 22 = .ok (.getfield 12, 3) := by decide +kernel
theorem dX5_keep_25 : decode cX5_keep 25 = .ok (.getfield 84, 3) := by decide +kernel
theorem dX5_keep_28 : decode cX5_keep 28 = .ok (.iconst 0, 1) := by decide +kernel
theorem dX5_keep_29 : decode cX5_keep 29 = .ok (.aload_n 0, 1) := by decide +kernel
theorem dX5_keep_30 : decode cX5_keep 30 = .ok (.getfield 34, 3) := by decide +kernel
theorem dX5_keep_33 : decode cX5_keep 33 = .ok (.iload_n 1, 1) := by decide +kernel
theorem dX5_keep_34 : decode cX5_keep 34 = .ok (.bipush 8, 2) := by decide +kernel
theorem dX5_keep_36 : decode cX5_keep 36 = .ok (.imul, 1) := by decide +kernel
theorem dX5_keep_37 : decode cX5_keep 37 = .ok (.bipush 8, 2) := by decide +kernel
theorem dX5_keep_39 : decode cX5_keep 39 = .ok (.invokestatic 78, 3) := by decide +kernel
theorem dX5_keep_42 : decode cX5_keep 42 = .ok (.aload_n 0, 1) := by decide +kernel
theorem dX5_keep_43 : decode cX5_keep 43 = .ok (.getfield 12, 3) := by decide +kernel
theorem dX5_keep_46 : decode cX5_keep 46 = .ok (.getfield 85, 3) := by decide +kernel
theorem dX5_keep_49 : decode cX5_keep 49 = .ok (.iconst 0, 1) := by decide +kernel
theorem dX5_keep_50 : decode cX5_keep 50 = .ok (.aload_n 0, 1) := by decide +kernel
theorem dX5_keep_51 : decode cX5_keep 51 = .ok (.getfield 37, 3) := by decide +kernel
theorem dX5_keep_54 : decode cX5_keep 54 = .ok (.iload_n 1, 1) := by decide +kernel
theorem dX5_keep_55 : decode cX5_keep 55 = .ok (.bipush 8, 2) := by decide +kernel
theorem dX5_keep_57 : decode cX5_keep 57 = .ok (.imul, 1) := by decide +kernel
theorem dX5_keep_58 : decode cX5_keep 58 = .ok (.bipush 8, 2) := by decide +kernel
theorem dX5_keep_60 : decode cX5_keep 60 = .ok (.invokestatic 78, 3) := by decide +kernel
theorem dX5_keep_63 : decode cX5_keep 63 = .ok (.return_, 1) := by decide +kernel
theorem dX6_init_0 : decode cX6_init 0 = .ok (.aload_n 0, 1) := by decide +kernel
theorem dX6_init_1 : decode cX6_init 1 = .ok (.invokespecial 3, 3) := by decide +kernel
theorem dX6_init_4 : decode cX6_init 4 = .ok (.aload_n 0, 1) := by decide +kernel
theorem dX6_init_5 : decode cX6_init 5 = .ok (.new 9, 3) := by decide +kernel
theorem dX6_init_8 : decode cX6_init 8 = .ok (.dup, 1) := by decide +kernel
theorem dX6_init_9 : decode cX6_init 9 = .ok (.invokespecial 11, 3) := by decide +kernel
theorem dX6_init_12 : decode cX6_init 12 = .ok (.putfield 12, 3) := by decide +kernel
theorem dX6_init_15 : decode cX6_init 15 = .ok (.aload_n 0, 1) := by decide +kernel
theorem dX6_init_16 : decode cX6_init 16 = .ok (.new 18, 3) := by decide +kernel
theorem dX6_init_19 : decode cX6_init 19 = .ok (.dup, 1) := by decide +kernel
theorem dX6_init_20 : decode cX6_init 20 = .ok (.invokespecial 20, 3) := by decide +kernel
theorem dX6_init_23 : decode cX6_init 23 = .ok (.putfield 21, 3) := by decide +kernel
theorem dX6_init_26 : decode cX6_init 26 = .ok (.aload_n 0, 1) := by decide +kernel
theorem dX6_init_27 : decode cX6_init 27 = .ok (.bipush 20, 2) := by decide +kernel
theorem dX6_init_29 : decode cX6_init 29 = .ok (.newarray .int, 2) := by decide +kernel
theorem dX6_init_31 : decode cX6_init 31 = .ok (.putfield 25, 3) := by decide +kernel
theorem dX6_init_34 : decode cX6_init 34 = .ok (.return_, 1) := by decide +kernel
theorem dX6_prepare_0 : decode cX6_prepare 0 = .ok (.aload_n 0, 1) := by decide +kernel
theorem dX6_prepare_1 : decode cX6_prepare 1 = .ok (.getfield 12, 3) := by decide +kernel
theorem dX6_prepare_4 : decode cX6_prepare 4 = .ok (.aload_n 1, 1) := by decide +kernel
theorem dX6_prepare_5 : decode cX6_prepare 5 = .ok (.invokevirtual 29, 3) := by decide +kernel
theorem dX6_prepare_8 : decode cX6_prepare 8 = .ok (.return_, 1) := by decide +kernel
theorem dX6_run_0 : decode cX6_run 0 = .ok (.aload_n 0, 1) := by decide +kernel
theorem dX6_run_1 : decode cX6_run 1 = .ok (.getfield 21, 3) := by decide +kernel
theorem dX6_run_4 : decode cX6_run 4 = .ok (.aload_n 0, 1) := by decide +kernel
theorem dX6_run_5 : decode cX6_run 5 = .ok (.getfield 12, 3) := by decide +kernel
theorem dX6_run_8 : decode cX6_run 8 = .ok (.invokevirtual 33, 3) := by decide +kernel
theorem dX6_run_11 : decode cX6_run 11 = .ok (.iconst 0, 1) := by decide +kernel
theorem dX6_run_12 : decode cX6_run 12 = .ok (.istore_n 1, 1) := by decide +kernel
theorem dX6_run_13 : decode cX6_run 13 = .ok (.iload_n 1, 1) := by decide +kernel
theorem dX6_run_14 : decode cX6_run 14 = .ok (.aload_n 0, 1) := by decide +kernel
theorem dX6_run_15 : decode cX6_run 15 = .ok (.getfield 12, 3) := by decide +kernel
theorem dX6_run_18 : decode cX6_run 18 = .ok (.getfield 36, 3) := by decide +kernel
theorem dX6_run_21 : decode cX6_run 21 = .ok (.if_icmp .ge 43, 3) := by decide +kernel
theorem dX6_run_24 : decode cX6_run 24 = .ok (.aload_n 0, 1) := by decide +kernel
theorem dX6_run_25 : decode cX6_run 25 = .ok (.getfield 21, 3) := by decide +kernel
theorem dX6_run_28 : decode cX6_run 28 = .ok (.aload_n 0, 1) := by decide +kernel
theorem dX6_run_29 : decode cX6_run 29 = .ok (.getfield 12, 3) := by decide +kernel
theorem dX6_run_32 : decode cX6_run 32 = .ok (.iload_n 1, 1) := by decide +kernel
theorem dX6_run_33 : decode cX6_run 33 = .ok (.aload_n 0, 1) := by decide +kernel
theorem dX6_run_34 : decode cX6_run 34 = .ok (.getfield 12, 3) := by decide +kernel
theorem dX6_run_37 : decode cX6_run 37 = .ok (.getfield 40, 3) := by decide +kernel
theorem dX6_run_40 : decode cX6_run 40 = .ok (.iload_n 1, 1) := by decide +kernel
theorem dX6_run_41 : decode cX6_run 41 = .ok (.iaload, 1) := by decide +kernel
theorem dX6_run_42 : decode cX6_run 42 = .ok (.invokevirtual 43, 3) := by decide +kernel
theorem dX6_run_45 : decode cX6_run 45 = .ok (.aload_n 0, 1) := by decide +kernel
theorem dX6_run_46 : decode cX6_run 46 = .ok (.getfield 25, 3) := by decide +kernel
theorem dX6_run_49 : decode cX6_run 49 = .ok (.iload_n 1, 1) := by decide +kernel
theorem dX6_run_50 : decode cX6_run 50 = .ok (.aload_n 0, 1) := by decide +kernel
theorem dX6_run_51 : decode cX6_run 51 = .ok (.getfield 21, 3) := by decide +kernel
theorem dX6_run_54 : decode cX6_run 54 = .ok (.getfield 47, 3) := by decide +kernel
theorem dX6_run_57 : decode cX6_run 57 = .ok (.iastore, 1) := by decide +kernel
theorem dX6_run_58 : decode cX6_run 58 = .ok (.iinc 1 1, 3) := by decide +kernel
theorem dX6_run_61 : decode cX6_run 61 = .ok (.goto (-48), 3) := by decide +kernel
theorem dX6_run_64 : decode cX6_run 64 = .ok (.return_, 1) := by decide +kernel
theorem dX7_init_0 : decode cX7_init 0 = .ok (.aload_n 0, 1) := by decide +kernel
theorem dX7_init_1 : decode cX7_init 1 = .ok (.invokespecial 3, 3) := by decide +kernel
theorem dX7_init_4 : decode cX7_init 4 = .ok (.aload_n 0, 1) := by decide +kernel
theorem dX7_init_5 : decode cX7_init 5 = .ok (.bipush 8, 2) := by decide +kernel
theorem dX7_init_7 : decode cX7_init 7 = .ok (.newarray .int, 2) := by decide +kernel
theorem dX7_init_9 : decode cX7_init 9 = .ok (.putfield 9, 3) := by decide +kernel
theorem dX7_init_12 : decode cX7_init 12 = .ok (.aload_n 0, 1) := by decide +kernel
theorem dX7_init_13 : decode cX7_init 13 = .ok (.bipush 8, 2) := by decide +kernel
theorem dX7_init_15 : decode cX7_init 15 = .ok (.newarray .int, 2) := by decide +kernel
theorem dX7_init_17 : decode cX7_init 17 = .ok (.putfield 15, 3) := by decide +kernel
theorem dX7_init_20 : decode cX7_init 20 = .ok (.aload_n 0, 1) := by decide +kernel
theorem dX7_init_21 : decode cX7_init 21 = .ok (.bipush 8, 2) := by decide +kernel
theorem dX7_init_23 : decode cX7_init 23 = .ok (.newarray .int, 2) := by decide +kernel
theorem dX7_init_25 : decode cX7_init 25 = .ok (.putfield 18, 3) := by decide +kernel
theorem dX7_init_28 : decode cX7_init 28 = .ok (.aload_n 0, 1) := by decide +kernel
theorem dX7_init_29 : decode cX7_init 29 = .ok (.iconst 0, 1) := by decide +kernel
theorem dX7_init_30 : decode cX7_init 30 = .ok (.putfield 21, 3) := by decide +kernel
theorem dX7_init_33 : decode cX7_init 33 = .ok (.aload_n 0, 1) := by decide +kernel
theorem dX7_init_34 : decode cX7_init 34 = .ok (.iconst 0, 1) := by decide +kernel
theorem dX7_init_35 : decode cX7_init 35 = .ok (.putfield 25, 3) := by decide +kernel
theorem dX7_init_38 : decode cX7_init 38 = .ok (.aload_n 0, 1) := by decide +kernel
theorem dX7_init_39 : decode cX7_init 39 = .ok (.iconst 0, 1) := by decide +kernel
theorem dX7_init_40 : decode cX7_init 40 = .ok (.putfield 28, 3) := by decide +kernel
theorem dX7_init_43 : decode cX7_init 43 = .ok (.aload_n 0, 1) := by decide +kernel
theorem dX7_init_44 : decode cX7_init 44 = .ok (.iconst 0, 1) := by decide +kernel
theorem dX7_init_45 : decode cX7_init 45 = .ok (.putfield 31, 3) := by decide +kernel
theorem dX7_init_48 : decode cX7_init 48 = .ok (.aload_n 0, 1) := by decide +kernel
theorem dX7_init_49 : decode cX7_init 49 = .ok (.iconst 0, 1) := by decide +kernel
theorem dX7_init_50 : decode cX7_init 50 = .ok (.putfield 34, 3) := by decide +kernel
theorem dX7_init_53 : decode cX7_init 53 = .ok (.aload_n 0, 1) := by decide +kernel
theorem dX7_init_54 : decode cX7_init 54 = .ok (.iconst 0, 1) := by decide +kernel
theorem dX7_init_55 : decode cX7_init 55 = .ok (.putfield 37, 3) := by decide +kernel
theorem dX7_init_58 : decode cX7_init 58 = .ok (.aload_n 0, 1) := by decide +kernel
theorem dX7_init_59 : decode cX7_init 59 = .ok (.iconst 0, 1) := by decide +kernel
theorem dX7_init_60 : decode cX7_init 60 = .ok (.putfield 40, 3) := by decide +kernel
theorem dX7_init_63 : decode cX7_init 63 = .ok (.aload_n 0, 1) := by decide +kernel
theorem dX7_init_64 : decode cX7_init 64 = .ok (.iconst 0, 1) := by decide +kernel
theorem dX7_init_65 : decode cX7_init 65 = .ok (.putfield 43, 3) := by decide +kernel
theorem dX7_init_68 : decode cX7_init 68 = .ok (.aload_n 0, 1) := by decide +kernel
theorem dX7_init_69 : decode cX7_init 69 = .ok (.iconst 0, 1) := by decide +kernel
theorem dX7_init_70 : decode cX7_init 70 = .ok (.putfield 46, 3) := by decide +kernel
theorem dX7_init_73 : decode cX7_init 73 = .ok (.return_, 1) := by decide +kernel
theorem dX7_begin_0 : decode cX7_begin 0 = .ok (.aload_n 0, 1) := by decide +kernel
theorem dX7_begin_1 : decode cX7_begin 1 = .ok (.getfield 9, 3) := by decide +kernel
theorem dX7_begin_4 : decode cX7_begin 4 = .ok (.iconst 0, 1) := by decide +kernel
theorem dX7_begin_5 : decode cX7_begin 5 = .ok (.invokestatic 49, 3) := by decide +kernel
theorem dX7_begin_8 : decode cX7_begin 8 = .ok (.aload_n 0, 1) := by decide +kernel
theorem dX7_begin_9 : decode cX7_begin 9 = .ok (.getfield 15, 3) := by decide +kernel
theorem dX7_begin_12 : decode cX7_begin 12 = .ok (.iconst 0, 1) := by decide +kernel
theorem dX7_begin_13 : decode cX7_begin 13 = .ok (.invokestatic 49, 3) := by decide +kernel
theorem dX7_begin_16 : decode cX7_begin 16 = .ok (.aload_n 1, 1) := by decide +kernel
theorem dX7_begin_17 : decode cX7_begin 17 = .ok (.getfield 55, 3) := by decide +kernel
theorem dX7_begin_20 : decode cX7_begin 20 = .ok (.iconst 0, 1) := by decide +kernel
theorem dX7_begin_21 : decode cX7_begin 21 = .ok (.aload_n 0, 1) := by decide +kernel
theorem dX7_begin_22 : decode cX7_begin 22 = .ok (.getfield 18, 3) := by decide +kernel
theorem dX7_begin_25 : decode cX7_begin 25 = .ok (.iconst 0, 1) := by decide +kernel
theorem dX7_begin_26 : decode cX7_begin 26 = .ok (.bipush 8, 2) := by decide +kernel
theorem dX7_begin_28 : decode cX7_begin 28 = .ok (.invokestatic 60, 3) := by decide +kernel
theorem dX7_begin_31 : decode cX7_begin 31 = .ok (.aload_n 0, 1) := by decide +kernel
theorem dX7_begin_32 : decode cX7_begin 32 = .ok (.aload_n 1, 1) := by decide +kernel
theorem dX7_begin_33 : decode cX7_begin 33 = .ok (.getfield 66, 3) := by decide +kernel
theorem dX7_begin_36 : decode cX7_begin 36 = .ok (.putfield 21, 3) := by decide +kernel
theorem dX7_begin_39 : decode cX7_begin 39 = .ok (.aload_n 0, 1) := by decide +kernel
theorem dX7_begin_40 : decode cX7_begin 40 = .ok (.iconst 0, 1) := by decide +kernel
theorem dX7_begin_41 : decode cX7_begin 41 = .ok (.putfield 25, 3) := by decide +kernel
theorem dX7_begin_44 : decode cX7_begin 44 = .ok (.aload_n 0, 1) := by decide +kernel
theorem dX7_begin_45 : decode cX7_begin 45 = .ok (.aload_n 1, 1) := by decide +kernel
theorem dX7_begin_46 : decode cX7_begin 46 = .ok (.getfield 67, 3) := by decide +kernel
theorem dX7_begin_49 : decode cX7_begin 49 = .ok (.iconst 0, 1) := by decide +kernel
theorem dX7_begin_50 : decode cX7_begin 50 = .ok (.iaload, 1) := by decide +kernel
theorem dX7_begin_51 : decode cX7_begin 51 = .ok (.putfield 28, 3) := by decide +kernel
theorem dX7_begin_54 : decode cX7_begin 54 = .ok (.aload_n 0, 1) := by decide +kernel
theorem dX7_begin_55 : decode cX7_begin 55 = .ok (.iconst 0, 1) := by decide +kernel
theorem dX7_begin_56 : decode cX7_begin 56 = .ok (.putfield 31, 3) := by decide +kernel
theorem dX7_begin_59 : decode cX7_begin 59 = .ok (.aload_n 0, 1) := by decide +kernel
theorem dX7_begin_60 : decode cX7_begin 60 = .ok (.iconst 0, 1) := by decide +kernel
theorem dX7_begin_61 : decode cX7_begin 61 = .ok (.putfield 34, 3) := by decide +kernel
theorem dX7_begin_64 : decode cX7_begin 64 = .ok (.return_, 1) := by decide +kernel
theorem dX7_copyFrom_0 : decode cX7_copyFrom 0 = .ok (.aload_n 1, 1) := by decide +kernel
theorem dX7_copyFrom_1 : decode cX7_copyFrom 1 = .ok (.getfield 9, 3) := by decide +kernel
theorem dX7_copyFrom_4 : decode cX7_copyFrom 4 = .ok (.iconst 0, 1) := by decide +kernel
theorem dX7_copyFrom_5 : decode cX7_copyFrom 5 = .ok (.aload_n 0, 1) := by decide +kernel
theorem dX7_copyFrom_6 : decode cX7_copyFrom 6 = .ok (.getfield 9, 3) := by decide +kernel
theorem dX7_copyFrom_9 : decode cX7_copyFrom 9 = .ok (.iconst 0, 1) := by decide +kernel
theorem dX7_copyFrom_10 : decode cX7_copyFrom 10 = .ok (.bipush 8, 2) := by decide +kernel
theorem dX7_copyFrom_12 : decode cX7_copyFrom 12 = .ok (.invokestatic 60, 3) := by decide +kernel
theorem dX7_copyFrom_15 : decode cX7_copyFrom 15 = .ok (.aload_n 1, 1) := by decide +kernel
theorem dX7_copyFrom_16 : decode cX7_copyFrom 16 = .ok (.getfield 15, 3) := by decide +kernel
theorem dX7_copyFrom_19 : decode cX7_copyFrom 19 = .ok (.iconst 0, 1) := by decide +kernel
theorem dX7_copyFrom_20 : decode cX7_copyFrom 20 = .ok (.aload_n 0, 1) := by decide +kernel
theorem dX7_copyFrom_21 : decode cX7_copyFrom 21 = .ok (.getfield 15, 3) := by decide +kernel
theorem dX7_copyFrom_24 : decode cX7_copyFrom 24 = .ok (.iconst 0, 1) := by decide +kernel
theorem dX7_copyFrom_25 : decode cX7_copyFrom 25 = .ok (.bipush 8, 2) := by decide +kernel
theorem dX7_copyFrom_27 : decode cX7_copyFrom 27 = .ok (.invokestatic 60, 3) := by decide +kernel
theorem dX7_copyFrom_30 : decode cX7_copyFrom 30 = .ok (.aload_n 1, 1) := by decide +kernel
theorem dX7_copyFrom_31 : decode cX7_copyFrom 31 = .ok (.getfield 18, 3) := by decide +kernel
theorem dX7_copyFrom_34 : decode cX7_copyFrom 34 = .ok (.iconst 0, 1) := by decide +kernel
theorem dX7_copyFrom_35 : decode cX7_copyFrom 35 = .ok (.aload_n 0, 1) := by decide +kernel
theorem dX7_copyFrom_36 : decode cX7_copyFrom 36 = .ok (.getfield 18, 3) := by decide +kernel
theorem dX7_copyFrom_39 : decode cX7_copyFrom 39 = .ok (.iconst 0, 1) := by decide +kernel
theorem dX7_copyFrom_40 : decode cX7_copyFrom 40 = .ok (.bipush 8, 2) := by decide +kernel
theorem dX7_copyFrom_42 : decode cX7_copyFrom 42 = .ok (.invokestatic 60, 3) := by decide +kernel
theorem dX7_copyFrom_45 : decode cX7_copyFrom 45 = .ok (.aload_n 0, 1) := by decide +kernel
theorem dX7_copyFrom_46 : decode cX7_copyFrom 46 = .ok (.aload_n 1, 1) := by decide +kernel
theorem dX7_copyFrom_47 : decode cX7_copyFrom 47 = .ok (.getfield 21, 3) := by decide +kernel
theorem dX7_copyFrom_50 : decode cX7_copyFrom 50 = .ok (.putfield 21, 3) := by decide +kernel
theorem dX7_copyFrom_53 : decode cX7_copyFrom 53 = .ok (.aload_n 0, 1) := by decide +kernel
theorem dX7_copyFrom_54 : decode cX7_copyFrom 54 = .ok (.aload_n 1, 1) := by decide +kernel
theorem dX7_copyFrom_55 : decode cX7_copyFrom 55 = .ok (.getfield 25, 3) := by decide +kernel
theorem dX7_copyFrom_58 : decode cX7_copyFrom 58 = .ok (.putfield 25, 3) := by decide +kernel
theorem dX7_copyFrom_61 : decode cX7_copyFrom 61 = .ok (.aload_n 0, 1) := by decide +kernel
theorem dX7_copyFrom_62 : decode cX7_copyFrom 62 = .ok (.aload_n 1, 1) := by decide +kernel
theorem dX7_copyFrom_63 : decode cX7_copyFrom 63 = .ok (.getfield 28, 3) := by decide +kernel
theorem dX7_copyFrom_66 : decode cX7_copyFrom 66 = .ok (.putfield 28, 3) := by decide +kernel
theorem dX7_copyFrom_69 : decode cX7_copyFrom 69 = .ok (.aload_n 0, 1) := by decide +kernel
theorem dX7_copyFrom_70 : decode cX7_copyFrom 70 = .ok (.aload_n 1, 1) := by decide +kernel
theorem dX7_copyFrom_71 : decode cX7_copyFrom 71 = .ok (.getfield 31, 3) := by decide +kernel
theorem dX7_copyFrom_74 : decode cX7_copyFrom 74 = .ok (.putfield 31, 3) := by decide +kernel
theorem dX7_copyFrom_77 : decode cX7_copyFrom 77 = .ok (.aload_n 0, 1) := by decide +kernel
theorem dX7_copyFrom_78 : decode cX7_copyFrom 78 = .ok (.aload_n 1, 1) := by decide +kernel
theorem dX7_copyFrom_79 : decode cX7_copyFrom 79 = .ok (.getfield 34, 3) := by decide +kernel
theorem dX7_copyFrom_82 : decode cX7_copyFrom 82 = .ok (.putfield 34, 3) := by decide +kernel
theorem dX7_copyFrom_85 : decode cX7_copyFrom 85 = .ok (.return_, 1) := by decide +kernel
theorem dX7_visit_0 : decode cX7_visit 0 = .ok (.aload_n 0, 1) := by decide +kernel
theorem dX7_visit_1 : decode cX7_visit 1 = .ok (.iconst 0, 1) := by decide +kernel
theorem dX7_visit_2 : decode cX7_visit 2 = .ok (.putfield 37, 3) := by decide +kernel
theorem dX7_visit_5 : decode cX7_visit 5 = .ok (.aload_n 0, 1) := by decide +kernel
theorem dX7_visit_6 : decode cX7_visit 6 = .ok (.iconst 0, 1) := by decide +kernel
theorem dX7_visit_7 : decode cX7_visit 7 = .ok (.putfield 40, 3) := by decide +kernel
theorem dX7_visit_10 : decode cX7_visit 10 = .ok (.aload_n 0, 1) := by decide +kernel
theorem dX7_visit_11 : decode cX7_visit 11 = .ok (.iconst 0, 1) := by decide +kernel
theorem dX7_visit_12 : decode cX7_visit 12 = .ok (.putfield 43, 3) := by decide +kernel
theorem dX7_visit_15 : decode cX7_visit 15 = .ok (.aload_n 0, 1) := by decide +kernel
theorem dX7_visit_16 : decode cX7_visit 16 = .ok (.iconst 0, 1) := by decide +kernel
theorem dX7_visit_17 : decode cX7_visit 17 = .ok (.putfield 46, 3) := by decide +kernel
theorem dX7_visit_20 : decode cX7_visit 20 = .ok (.iload_n 3, 1) := by decide +kernel
theorem dX7_visit_21 : decode cX7_visit 21 = .ok (.aload_n 0, 1) := by decide +kernel
theorem dX7_visit_22 : decode cX7_visit 22 = .ok (.getfield 21, 3) := by decide +kernel
theorem dX7_visit_25 : decode cX7_visit 25 = .ok (.if_icmp .ge 26, 3) := by decide +kernel
theorem dX7_visit_28 : decode cX7_visit 28 = .ok (.iload_n 3, 1) := by decide +kernel
theorem dX7_visit_29 : decode cX7_visit 29 = .ok (.aload_n 1, 1) := by decide +kernel
theorem dX7_visit_30 : decode cX7_visit 30 = .ok (.getfield 70, 3) := by decide +kernel
theorem dX7_visit_33 : decode cX7_visit 33 = .ok (.if_icmp .eq 18, 3) := by decide +kernel
theorem dX7_visit_36 : decode cX7_visit 36 = .ok (.aload_n 0, 1) := by decide +kernel
theorem dX7_visit_37 : decode cX7_visit 37 = .ok (.iload_n 3, 1) := by decide +kernel
theorem dX7_visit_38 : decode cX7_visit 38 = .ok (.invokevirtual 73, 3) := by decide +kernel
theorem dX7_visit_41 : decode cX7_visit 41 = .ok (.ifCond .ne 10, 3) := by decide +kernel
theorem dX7_visit_44 : decode cX7_visit 44 = .ok (.aload_n 0, 1) := by decide +kernel
theorem dX7_visit_45 : decode cX7_visit 45 = .ok (.aload_n 1, 1) := by decide +kernel
theorem dX7_visit_46 : decode cX7_visit 46 = .ok (.iload_n 2, 1) := by decide +kernel
theorem dX7_visit_47 : decode cX7_visit 47 = .ok (.iload_n 3, 1) := by decide +kernel
theorem dX7_visit_48 : decode cX7_visit 48 = .ok (.invokevirtual 77, 3) := by decide +kernel
theorem dX7_visit_51 : decode cX7_visit 51 = .ok (.aload_n 0, 1) := by decide +kernel
theorem dX7_visit_52 : decode cX7_visit 52 = .ok (.aload_n 0, 1) := by decide +kernel
theorem dX7_visit_53 : decode cX7_visit 53 = .ok (.getfield 28, 3) := by decide +kernel
theorem dX7_visit_56 : decode cX7_visit 56 = .ok (.iconst 1, 1) := by decide +kernel
theorem dX7_visit_57 : decode cX7_visit 57 = .ok (.iadd, 1) := by decide +kernel
theorem dX7_visit_58 : decode cX7_visit 58 = .ok (.bipush 9, 2) := by decide +kernel
theorem dX7_visit_60 : decode cX7_visit 60 = .ok (.invokestatic 81, 3) := by decide +kernel
theorem dX7_visit_63 : decode cX7_visit 63 = .ok (.putfield 28, 3) := by decide +kernel
theorem dX7_visit_66 : decode cX7_visit 66 = .ok (.return_, 1) := by decide +kernel
theorem dX7_meet_0 : decode cX7_meet 0 = .ok (.aload_n 0, 1) := by decide +kernel
theorem dX7_meet_1 : decode cX7_meet 1 = .ok (.getfield 18, 3) := by decide +kernel
theorem dX7_meet_4 : decode cX7_meet 4 = .ok (.iload_n 3, 1) := by decide +kernel
theorem dX7_meet_5 : decode cX7_meet 5 = .ok (.iaload, 1) := by decide +kernel
theorem dX7_meet_6 : decode cX7_meet 6 = .ok (.aload_n 0, 1) := by decide +kernel
theorem dX7_meet_7 : decode cX7_meet 7 = .ok (.getfield 28, 3) := by decide +kernel
theorem dX7_meet_10 : decode cX7_meet 10 = .ok (.aload_n 1, 1) := by decide +kernel
theorem dX7_meet_11 : decode cX7_meet 11 = .ok (.getfield 67, 3) := by decide +kernel
theorem dX7_meet_14 : decode cX7_meet 14 = .ok (.iconst 3, 1) := by decide +kernel
theorem dX7_meet_15 : decode cX7_meet 15 = .ok (.iaload, 1) := by decide +kernel
theorem dX7_meet_16 : decode cX7_meet 16 = .ok (.invokestatic 81, 3) := by decide +kernel
theorem dX7_meet_19 : decode cX7_meet 19 = .ok (.invokestatic 81, 3) := by decide +kernel
theorem dX7_meet_22 : decode cX7_meet 22 = .ok (.istore 4, 2) := by decide +kernel
theorem dX7_meet_24 : decode cX7_meet 24 = .ok (.aload_n 0, 1) := by decide +kernel
theorem dX7_meet_25 : decode cX7_meet 25 = .ok (.aload_n 1, 1) := by decide +kernel
theorem dX7_meet_26 : decode cX7_meet 26 = .ok (.getfield 87, 3) := by decide +kernel
theorem dX7_meet_29 : decode cX7_meet 29 = .ok (.iload_n 3, 1) := by decide +kernel
theorem dX7_meet_30 : decode cX7_meet 30 = .ok (.iaload, 1) := by decide +kernel
theorem dX7_meet_31 : decode cX7_meet 31 = .ok (.iload 4, 2) := by decide +kernel
theorem dX7_meet_33 : decode cX7_meet 33 = .ok (.iadd, 1) := by decide +kernel
theorem dX7_meet_34 : decode cX7_meet 34 = .ok (.putfield 43, 3) := by decide +kernel
theorem dX7_meet_37 : decode cX7_meet 37 = .ok (.aload_n 0, 1) := by decide +kernel
theorem dX7_meet_38 : decode cX7_meet 38 = .ok (.getfield 43, 3) := by decide +kernel
theorem dX7_meet_41 : decode cX7_meet 41 = .ok (.aload_n 1, 1) := by decide +kernel
theorem dX7_meet_42 : decode cX7_meet 42 = .ok (.iload_n 2, 1) := by decide +kernel
theorem dX7_meet_43 : decode cX7_meet 43 = .ok (.iload_n 3, 1) := by decide +kernel
theorem dX7_meet_44 : decode cX7_meet 44 = .ok (.invokevirtual 90, 3) := by decide +kernel
theorem dX7_meet_47 : decode cX7_meet 47 = .ok (.if_icmp .ge 9, 3) := by decide +kernel
theorem dX7_meet_50 : decode cX7_meet 50 = .ok (.aload_n 0, 1) := by decide +kernel
theorem dX7_meet_51 : decode cX7_meet 51 = .ok (.iload_n 3, 1) := by decide +kernel
theorem dX7_meet_52 : decode cX7_meet 52 = .ok (.invokevirtual 93, 3) := by decide +kernel
theorem dX7_meet_55 : decode cX7_meet 55 = .ok (.return_, 1) := by decide +kernel
theorem dX7_meet_56 : decode cX7_meet 56 = .ok (.aload_n 0, 1) := by decide +kernel
theorem dX7_meet_57 : decode cX7_meet 57 = .ok (.iload 4, 2) := by decide +kernel
theorem dX7_meet_59 : decode cX7_meet 59 = .ok (.putfield 40, 3) := by decide +kernel
theorem dX7_meet_62 : decode cX7_meet 62 = .ok (.aload_n 0, 1) := by decide +kernel
theorem dX7_meet_63 : decode cX7_meet 63 = .ok (.dup, 1) := by decide +kernel
theorem dX7_meet_64 : decode cX7_meet 64 = .ok (.getfield 28, 3) := by decide +kernel
theorem dX7_meet_67 : decode cX7_meet 67 = .ok (.iload 4, 2) := by decide +kernel
theorem dX7_meet_69 : decode cX7_meet 69 = .ok (.isub, 1) := by decide +kernel
theorem dX7_meet_70 : decode cX7_meet 70 = .ok (.putfield 28, 3) := by decide +kernel
theorem dX7_meet_73 : decode cX7_meet 73 = .ok (.aload_n 0, 1) := by decide +kernel
theorem dX7_meet_74 : decode cX7_meet 74 = .ok (.getfield 18, 3) := by decide +kernel
theorem dX7_meet_77 : decode cX7_meet 77 = .ok (.iload_n 3, 1) := by decide +kernel
theorem dX7_meet_78 : decode cX7_meet 78 = .ok (.dup2, 1) := by decide +kernel
theorem dX7_meet_79 : decode cX7_meet 79 = .ok (.iaload, 1) := by decide +kernel
theorem dX7_meet_80 : decode cX7_meet 80 = .ok (.iload 4, 2) := by decide +kernel
theorem dX7_meet_82 : decode cX7_meet 82 = .ok (.isub, 1) := by decide +kernel
theorem dX7_meet_83 : decode cX7_meet 83 = .ok (.iastore, 1) := by decide +kernel
theorem dX7_meet_84 : decode cX7_meet 84 = .ok (.aload_n 0, 1) := by decide +kernel
theorem dX7_meet_85 : decode cX7_meet 85 = .ok (.getfield 43, 3) := by decide +kernel
theorem dX7_meet_88 : decode cX7_meet 88 = .ok (.aload_n 1, 1) := by decide +kernel
theorem dX7_meet_89 : decode cX7_meet 89 = .ok (.getfield 67, 3) := by decide +kernel
theorem dX7_meet_92 : decode cX7_meet 92 = .ok (.iconst 2, 1) := by decide +kernel
theorem dX7_meet_93 : decode cX7_meet 93 = .ok (.iaload, 1) := by decide +kernel
theorem dX7_meet_94 : decode cX7_meet 94 = .ok (.if_icmp .ne 10, 3) := by decide +kernel
theorem dX7_meet_97 : decode cX7_meet 97 = .ok (.aload_n 0, 1) := by decide +kernel
theorem dX7_meet_98 : decode cX7_meet 98 = .ok (.invokevirtual 97, 3) := by decide +kernel
theorem dX7_meet_101 : decode cX7_meet 101 = .ok (.goto 8, 3) := by decide +kernel
theorem dX7_meet_104 : decode cX7_meet 104 = .ok (.aload_n 0, 1) := by decide +kernel
theorem dX7_meet_105 : decode cX7_meet 105 = .ok (.iload_n 3, 1) := by decide +kernel
theorem dX7_meet_106 : decode cX7_meet 106 = .ok (.invokevirtual 100, 3) := by decide +kernel
theorem dX7_meet_109 : decode cX7_meet 109 = .ok (.return_, 1) := by decide +kernel
theorem dX7_disinherit_0 : decode cX7_disinherit 0 = .ok (.aload_n 0, 1) := by decide +kernel
theorem dX7_disinherit_1 : decode cX7_disinherit 1 = .ok (.iconst 1, 1) := by decide +kernel
theorem dX7_disinherit_2 : decode cX7_disinherit 2 = .ok (.putfield 37, 3) := by decide +kernel
theorem dX7_disinherit_5 : decode cX7_disinherit 5 = .ok (.aload_n 0, 1) := by decide +kernel
theorem dX7_disinherit_6 : decode cX7_disinherit 6 = .ok (.dup, 1) := by decide +kernel
theorem dX7_disinherit_7 : decode cX7_disinherit 7 = .ok (.getfield 31, 3) := by decide +kernel
theorem dX7_disinherit_10 : decode cX7_disinherit 10 = .ok (.iconst 1, 1) := by decide +kernel
theorem dX7_disinherit_11 : decode cX7_disinherit 11 = .ok (.iadd, 1) := by decide +kernel
theorem dX7_disinherit_12 : decode cX7_disinherit 12 = .ok (.putfield 31, 3) := by decide +kernel
theorem dX7_disinherit_15 : decode cX7_disinherit 15 = .ok (.aload_n 0, 1) := by decide +kernel
theorem dX7_disinherit_16 : decode cX7_disinherit 16 = .ok (.dup, 1) := by decide +kernel
theorem dX7_disinherit_17 : decode cX7_disinherit 17 = .ok (.getfield 34, 3) := by decide +kernel
theorem dX7_disinherit_20 : decode cX7_disinherit 20 = .ok (.aload_n 0, 1) := by decide +kernel
theorem dX7_disinherit_21 : decode cX7_disinherit 21 = .ok (.getfield 9, 3) := by decide +kernel
theorem dX7_disinherit_24 : decode cX7_disinherit 24 = .ok (.iload_n 1, 1) := by decide +kernel
theorem dX7_disinherit_25 : decode cX7_disinherit 25 = .ok (.iaload, 1) := by decide +kernel
theorem dX7_disinherit_26 : decode cX7_disinherit 26 = .ok (.iadd, 1) := by decide +kernel
theorem dX7_disinherit_27 : decode cX7_disinherit 27 = .ok (.putfield 34, 3) := by decide +kernel
theorem dX7_disinherit_30 : decode cX7_disinherit 30 = .ok (.aload_n 0, 1) := by decide +kernel
theorem dX7_disinherit_31 : decode cX7_disinherit 31 = .ok (.getfield 9, 3) := by decide +kernel
theorem dX7_disinherit_34 : decode cX7_disinherit 34 = .ok (.iload_n 1, 1) := by decide +kernel
theorem dX7_disinherit_35 : decode cX7_disinherit 35 = .ok (.iconst 0, 1) := by decide +kernel
theorem dX7_disinherit_36 : decode cX7_disinherit 36 = .ok (.iastore, 1) := by decide +kernel
theorem dX7_disinherit_37 : decode cX7_disinherit 37 = .ok (.aload_n 0, 1) := by decide +kernel
theorem dX7_disinherit_38 : decode cX7_disinherit 38 = .ok (.getfield 15, 3) := by decide +kernel
theorem dX7_disinherit_41 : decode cX7_disinherit 41 = .ok (.iload_n 1, 1) := by decide +kernel
theorem dX7_disinherit_42 : decode cX7_disinherit 42 = .ok (.iconst 0, 1) := by decide +kernel
theorem dX7_disinherit_43 : decode cX7_disinherit 43 = .ok (.iastore, 1) := by decide +kernel
theorem dX7_disinherit_44 : decode cX7_disinherit 44 = .ok (.aload_n 0, 1) := by decide +kernel
theorem dX7_disinherit_45 : decode cX7_disinherit 45 = .ok (.dup, 1) := by decide +kernel
theorem dX7_disinherit_46 : decode cX7_disinherit 46 = .ok (.getfield 25, 3) := by decide +kernel
theorem dX7_disinherit_49 : decode cX7_disinherit 49 = .ok (.iconst 1, 1) := by decide +kernel
theorem dX7_disinherit_50 : decode cX7_disinherit 50 = .ok (.iload_n 1, 1) := by decide +kernel
theorem dX7_disinherit_51 : decode cX7_disinherit 51 = .ok (.ishl, 1) := by decide +kernel
theorem dX7_disinherit_52 : decode cX7_disinherit 52 = .ok (.ior, 1) := by decide +kernel
theorem dX7_disinherit_53 : decode cX7_disinherit 53 = .ok (.putfield 25, 3) := by decide +kernel
theorem dX7_disinherit_56 : decode cX7_disinherit 56 = .ok (.return_, 1) := by decide +kernel
theorem dX7_halveShares_0 : decode cX7_halveShares 0 = .ok (.aload_n 0, 1) := by decide +kernel
theorem dX7_halveShares_1 : decode cX7_halveShares 1 = .ok (.iconst 2, 1) := by decide +kernel
theorem dX7_halveShares_2 : decode cX7_halveShares 2 = .ok (.putfield 37, 3) := by decide +kernel
theorem dX7_halveShares_5 : decode cX7_halveShares 5 = .ok (.iconst 0, 1) := by decide +kernel
theorem dX7_halveShares_6 : decode cX7_halveShares 6 = .ok (.istore_n 1, 1) := by decide +kernel
theorem dX7_halveShares_7 : decode cX7_halveShares 7 = .ok (.iload_n 1, 1) := by decide +kernel
theorem dX7_halveShares_8 : decode cX7_halveShares 8 = .ok (.aload_n 0, 1) := by decide +kernel
theorem dX7_halveShares_9 : decode cX7_halveShares 9 = .ok (.getfield 21, 3) := by decide +kernel
theorem dX7_halveShares_12 : decode cX7_halveShares 12 = .ok (.if_icmp .ge 42, 3) := by decide +kernel
theorem dX7_halveShares_15 : decode cX7_halveShares 15 = .ok (.aload_n 0, 1) := by decide +kernel
theorem dX7_halveShares_16 : decode cX7_halveShares 16 = .ok (.getfield 9, 3) := by decide +kernel
theorem dX7_halveShares_19 : decode cX7_halveShares 19 = .ok (.iload_n 1, 1) := by decide +kernel
theorem dX7_halveShares_20 : decode cX7_halveShares 20 = .ok (.iaload, 1) := by decide +kernel
theorem dX7_halveShares_21 : decode cX7_halveShares 21 = .ok (.iconst 2, 1) := by decide +kernel
theorem dX7_halveShares_22 : decode cX7_halveShares 22 = .ok (.idiv, 1) := by decide +kernel
theorem dX7_halveShares_23 : decode cX7_halveShares 23 = .ok (.istore_n 2, 1) := by decide +kernel
theorem dX7_halveShares_24 : decode cX7_halveShares 24 = .ok (.aload_n 0, 1) := by decide +kernel
theorem dX7_halveShares_25 : decode cX7_halveShares 25 = .ok (.dup, 1) := by decide +kernel
theorem dX7_halveShares_26 : decode cX7_halveShares 26 = .ok (.getfield 34, 3) := by decide +kernel
theorem dX7_halveShares_29 : decode cX7_halveShares 29 = .ok (.aload_n 0, 1) := by decide +kernel
theorem dX7_halveShares_30 : decode cX7_halveShares 30 = .ok (.getfield 9, 3) := by decide +kernel
theorem dX7_halveShares_33 : decode cX7_halveShares 33 = .ok (.iload_n 1, 1) := by decide +kernel
theorem dX7_halveShares_34 : decode cX7_halveShares 34 = .ok (.iaload, 1) := by decide +kernel
theorem dX7_halveShares_35 : decode cX7_halveShares 35 = .ok (.iload_n 2, 1) := by decide +kernel
theorem dX7_halveShares_36 : decode cX7_halveShares 36 = .ok (.isub, 1) := by decide +kernel
theorem dX7_halveShares_37 : decode cX7_halveShares 37 = .ok (.iadd, 1) := by decide +kernel
theorem dX7_halveShares_38 : decode cX7_halveShares 38 = .ok (.putfield 34, 3) := by decide +kernel
theorem dX7_halveShares_41 : decode cX7_halveShares 41 = .ok (.aload_n 0, 1) := by decide +kernel
theorem dX7_halveShares_42 : decode cX7_halveShares 42 = .ok (.getfield 9, 3) := by decide +kernel
theorem dX7_halveShares_45 : decode cX7_halveShares 45 = .ok (.iload_n 1, 1) := by decide +kernel
theorem dX7_halveShares_46 : decode cX7_halveShares 46 = .ok (.iload_n 2, 1) := by decide +kernel
theorem dX7_halveShares_47 : decode cX7_halveShares 47 = .ok (.iastore, 1) := by decide +kernel
theorem dX7_halveShares_48 : decode cX7_halveShares 48 = .ok (.iinc 1 1, 3) := by decide +kernel
theorem dX7_halveShares_51 : decode cX7_halveShares 51 = .ok (.goto (-44), 3) := by decide +kernel
theorem dX7_halveShares_54 : decode cX7_halveShares 54 = .ok (.return_, 1) := by decide +kernel
theorem dX7_bestow_0 : decode cX7_bestow 0 = .ok (.aload_n 0, 1) := by decide +kernel
theorem dX7_bestow_1 : decode cX7_bestow 1 = .ok (.iconst 3, 1) := by decide +kernel
theorem dX7_bestow_2 : decode cX7_bestow 2 = .ok (.putfield 37, 3) := by decide +kernel
theorem dX7_bestow_5 : decode cX7_bestow 5 = .ok (.aload_n 0, 1) := by decide +kernel
theorem dX7_bestow_6 : decode cX7_bestow 6 = .ok (.aload_n 0, 1) := by decide +kernel
theorem dX7_bestow_7 : decode cX7_bestow 7 = .ok (.getfield 43, 3) := by decide +kernel
theorem dX7_bestow_10 : decode cX7_bestow 10 = .ok (.bipush 9, 2) := by decide +kernel
theorem dX7_bestow_12 : decode cX7_bestow 12 = .ok (.if_icmp .ge 10, 3) := by decide +kernel
theorem dX7_bestow_15 : decode cX7_bestow 15 = .ok (.aload_n 0, 1) := by decide +kernel
theorem dX7_bestow_16 : decode cX7_bestow 16 = .ok (.getfield 43, 3) := by decide +kernel
theorem dX7_bestow_19 : decode cX7_bestow 19 = .ok (.goto 5, 3) := by decide +kernel
theorem dX7_bestow_22 : decode cX7_bestow 22 = .ok (.bipush 9, 2) := by decide +kernel
theorem dX7_bestow_24 : decode cX7_bestow 24 = .ok (.putfield 46, 3) := by decide +kernel
theorem dX7_bestow_27 : decode cX7_bestow 27 = .ok (.aload_n 0, 1) := by decide +kernel
theorem dX7_bestow_28 : decode cX7_bestow 28 = .ok (.getfield 40, 3) := by decide +kernel
theorem dX7_bestow_31 : decode cX7_bestow 31 = .ok (.ifCond .le 13, 3) := by decide +kernel
theorem dX7_bestow_34 : decode cX7_bestow 34 = .ok (.aload_n 0, 1) := by decide +kernel
theorem dX7_bestow_35 : decode cX7_bestow 35 = .ok (.dup, 1) := by decide +kernel
theorem dX7_bestow_36 : decode cX7_bestow 36 = .ok (.getfield 46, 3) := by decide +kernel
theorem dX7_bestow_39 : decode cX7_bestow 39 = .ok (.iconst 2, 1) := by decide +kernel
theorem dX7_bestow_40 : decode cX7_bestow 40 = .ok (.imul, 1) := by decide +kernel
theorem dX7_bestow_41 : decode cX7_bestow 41 = .ok (.putfield 46, 3) := by decide +kernel
theorem dX7_bestow_44 : decode cX7_bestow 44 = .ok (.aload_n 0, 1) := by decide +kernel
theorem dX7_bestow_45 : decode cX7_bestow 45 = .ok (.getfield 9, 3) := by decide +kernel
theorem dX7_bestow_48 : decode cX7_bestow 48 = .ok (.iload_n 1, 1) := by decide +kernel
theorem dX7_bestow_49 : decode cX7_bestow 49 = .ok (.dup2, 1) := by decide +kernel
theorem dX7_bestow_50 : decode cX7_bestow 50 = .ok (.iaload, 1) := by decide +kernel
theorem dX7_bestow_51 : decode cX7_bestow 51 = .ok (.aload_n 0, 1) := by decide +kernel
theorem dX7_bestow_52 : decode cX7_bestow 52 = .ok (.getfield 46, 3) := by decide +kernel
theorem dX7_bestow_55 : decode cX7_bestow 55 = .ok (.iadd, 1) := by decide +kernel
theorem dX7_bestow_56 : decode cX7_bestow 56 = .ok (.iastore, 1) := by decide +kernel
theorem dX7_bestow_57 : decode cX7_bestow 57 = .ok (.aload_n 0, 1) := by decide +kernel
theorem dX7_bestow_58 : decode cX7_bestow 58 = .ok (.getfield 43, 3) := by decide +kernel
theorem dX7_bestow_61 : decode cX7_bestow 61 = .ok (.bipush 9, 2) := by decide +kernel
theorem dX7_bestow_63 : decode cX7_bestow 63 = .ok (.if_icmp .lt 18, 3) := by decide +kernel
theorem dX7_bestow_66 : decode cX7_bestow 66 = .ok (.aload_n 0, 1) := by decide +kernel
theorem dX7_bestow_67 : decode cX7_bestow 67 = .ok (.iconst 4, 1) := by decide +kernel
theorem dX7_bestow_68 : decode cX7_bestow 68 = .ok (.putfield 37, 3) := by decide +kernel
theorem dX7_bestow_71 : decode cX7_bestow 71 = .ok (.aload_n 0, 1) := by decide +kernel
theorem dX7_bestow_72 : decode cX7_bestow 72 = .ok (.getfield 15, 3) := by decide +kernel
theorem dX7_bestow_75 : decode cX7_bestow 75 = .ok (.iload_n 1, 1) := by decide +kernel
theorem dX7_bestow_76 : decode cX7_bestow 76 = .ok (.dup2, 1) := by decide +kernel
theorem dX7_bestow_77 : decode cX7_bestow 77 = .ok (.iaload, 1) := by decide +kernel
theorem dX7_bestow_78 : decode cX7_bestow 78 = .ok (.iconst 1, 1) := by decide +kernel
theorem dX7_bestow_79 : decode cX7_bestow 79 = .ok (.iadd, 1) := by decide +kernel
theorem dX7_bestow_80 : decode cX7_bestow 80 = .ok (.iastore, 1) := by decide +kernel
theorem dX7_bestow_81 : decode cX7_bestow 81 = .ok (.return_, 1) := by decide +kernel
theorem dX7_isOut_0 : decode cX7_isOut 0 = .ok (.aload_n 0, 1) := by decide +kernel
theorem dX7_isOut_1 : decode cX7_isOut 1 = .ok (.getfield 25, 3) := by decide +kernel
theorem dX7_isOut_4 : decode cX7_isOut 4 = .ok (.iload_n 1, 1) := by decide +kernel
theorem dX7_isOut_5 : decode cX7_isOut 5 = .ok (.ishr, 1) := by decide +kernel
theorem dX7_isOut_6 : decode cX7_isOut 6 = .ok (.iconst 1, 1) := by decide +kernel
theorem dX7_isOut_7 : decode cX7_isOut 7 = .ok (.iand, 1) := by decide +kernel
theorem dX7_isOut_8 : decode cX7_isOut 8 = .ok (.ifCond .eq 7, 3) := by decide +kernel
theorem dX7_isOut_11 : decode cX7_isOut 11 = .ok (.iconst 1, 1) := by decide +kernel
theorem dX7_isOut_12 : decode cX7_isOut 12 = .ok (.goto 4, 3) := by decide +kernel
theorem dX7_isOut_15 : decode cX7_isOut 15 = .ok (.iconst 0, 1) := by decide +kernel
theorem dX7_isOut_16 : decode cX7_isOut 16 = .ok (.ireturn, 1) := by decide +kernel
theorem dX7_allShares_0 : decode cX7_allShares 0 = .ok (.iconst 0, 1) := by decide +kernel
theorem dX7_allShares_1 : decode cX7_allShares 1 = .ok (.istore_n 1, 1) := by decide +kernel
theorem dX7_allShares_2 : decode cX7_allShares 2 = .ok (.iconst 0, 1) := by decide +kernel
theorem dX7_allShares_3 : decode cX7_allShares 3 = .ok (.istore_n 2, 1) := by decide +kernel
theorem dX7_allShares_4 : decode cX7_allShares 4 = .ok (.iload_n 2, 1) := by decide +kernel
theorem dX7_allShares_5 : decode cX7_allShares 5 = .ok (.aload_n 0, 1) := by decide +kernel
theorem dX7_allShares_6 : decode cX7_allShares 6 = .ok (.getfield 21, 3) := by decide +kernel
theorem dX7_allShares_9 : decode cX7_allShares 9 = .ok (.if_icmp .ge 18, 3) := by decide +kernel
theorem dX7_allShares_12 : decode cX7_allShares 12 = .ok (.iload_n 1, 1) := by decide +kernel
theorem dX7_allShares_13 : decode cX7_allShares 13 = .ok (.aload_n 0, 1) := by decide +kernel
theorem dX7_allShares_14 : decode cX7_allShares 14 = .ok (.getfield 9, 3) := by decide +kernel
theorem dX7_allShares_17 : decode cX7_allShares 17 = .ok (.iload_n 2, 1) := by decide +kernel
theorem dX7_allShares_18 : decode cX7_allShares 18 = .ok (.iaload, 1) := by decide +kernel
theorem dX7_allShares_19 : decode cX7_allShares 19 = .ok (.iadd, 1) := by decide +kernel
theorem dX7_allShares_20 : decode cX7_allShares 20 = .ok (.istore_n 1, 1) := by decide +kernel
theorem dX7_allShares_21 : decode cX7_allShares 21 = .ok (.iinc 2 1, 3) := by decide +kernel
theorem dX7_allShares_24 : decode cX7_allShares 24 = .ok (.goto (-20), 3) := by decide +kernel
theorem dX7_allShares_27 : decode cX7_allShares 27 = .ok (.iload_n 1, 1) := by decide +kernel
theorem dX7_allShares_28 : decode cX7_allShares 28 = .ok (.ireturn, 1) := by decide +kernel
theorem dX7_allFields_0 : decode cX7_allFields 0 = .ok (.iconst 0, 1) := by decide +kernel
theorem dX7_allFields_1 : decode cX7_allFields 1 = .ok (.istore_n 1, 1) := by decide +kernel
theorem dX7_allFields_2 : decode cX7_allFields 2 = .ok (.iconst 0, 1) := by decide +kernel
theorem dX7_allFields_3 : decode cX7_allFields 3 = .ok (.istore_n 2, 1) := by decide +kernel
theorem dX7_allFields_4 : decode cX7_allFields 4 = .ok (.iload_n 2, 1) := by decide +kernel
theorem dX7_allFields_5 : decode cX7_allFields 5 = .ok (.aload_n 0, 1) := by decide +kernel
theorem dX7_allFields_6 : decode cX7_allFields 6 = .ok (.getfield 21, 3) := by decide +kernel
theorem dX7_allFields_9 : decode cX7_allFields 9 = .ok (.if_icmp .ge 18, 3) := by decide +kernel
theorem dX7_allFields_12 : decode cX7_allFields 12 = .ok (.iload_n 1, 1) := by decide +kernel
theorem dX7_allFields_13 : decode cX7_allFields 13 = .ok (.aload_n 0, 1) := by decide +kernel
theorem dX7_allFields_14 : decode cX7_allFields 14 = .ok (.getfield 15, 3) := by decide +kernel
theorem dX7_allFields_17 : decode cX7_allFields 17 = .ok (.iload_n 2, 1) := by decide +kernel
theorem dX7_allFields_18 : decode cX7_allFields 18 = .ok (.iaload, 1) := by decide +kernel
theorem dX7_allFields_19 : decode cX7_allFields 19 = .ok (.iadd, 1) := by decide +kernel
theorem dX7_allFields_20 : decode cX7_allFields 20 = .ok (.istore_n 1, 1) := by decide +kernel
theorem dX7_allFields_21 : decode cX7_allFields 21 = .ok (.iinc 2 1, 3) := by decide +kernel
theorem dX7_allFields_24 : decode cX7_allFields 24 = .ok (.goto (-20), 3) := by decide +kernel
theorem dX7_allFields_27 : decode cX7_allFields 27 = .ok (.iload_n 1, 1) := by decide +kernel
theorem dX7_allFields_28 : decode cX7_allFields 28 = .ok (.ireturn, 1) := by decide +kernel
theorem dX7_richestHeir_0 : decode cX7_richestHeir 0 = .ok (.iconst (-1), 1) := by decide +kernel
theorem dX7_richestHeir_1 : decode cX7_richestHeir 1 = .ok (.istore_n 1, 1) := by decide +kernel
theorem dX7_richestHeir_2 : decode cX7_richestHeir 2 = .ok (.iconst 0, 1) := by decide +kernel
theorem dX7_richestHeir_3 : decode cX7_richestHeir 3 = .ok (.istore_n 2, 1) := by decide +kernel
theorem dX7_richestHeir_4 : decode cX7_richestHeir 4 = .ok (.iconst 0, 1) := by decide +kernel
theorem dX7_richestHeir_5 : decode cX7_richestHeir 5 = .ok (.istore_n 3, 1) := by decide +kernel
theorem dX7_richestHeir_6 : decode cX7_richestHeir 6 = .ok (.iload_n 3, 1) := by decide +kernel
theorem dX7_richestHeir_7 : decode cX7_richestHeir 7 = .ok (.aload_n 0, 1) := by decide +kernel
theorem dX7_richestHeir_8 : decode cX7_richestHeir 8 = .ok (.getfield 21, 3) := by decide +kernel
theorem dX7_richestHeir_11 : decode cX7_richestHeir 11 = .ok (.if_icmp .ge 28, 3) := by decide +kernel
theorem dX7_richestHeir_14 : decode cX7_richestHeir 14 = .ok (.aload_n 0, 1) := by decide +kernel
theorem dX7_richestHeir_15 : decode cX7_richestHeir 15 = .ok (.getfield 9, 3) := by decide +kernel
theorem dX7_richestHeir_18 : decode cX7_richestHeir 18 = .ok (.iload_n 3, 1) := by decide +kernel
theorem dX7_richestHeir_19 : decode cX7_richestHeir 19 = .ok (.iaload, 1) := by decide +kernel
theorem dX7_richestHeir_20 : decode cX7_richestHeir 20 = .ok (.iload_n 2, 1) := by decide +kernel
theorem dX7_richestHeir_21 : decode cX7_richestHeir 21 = .ok (.if_icmp .le 12, 3) := by decide +kernel
theorem dX7_richestHeir_24 : decode cX7_richestHeir 24 = .ok (.aload_n 0, 1) := by decide +kernel
theorem dX7_richestHeir_25 : decode cX7_richestHeir 25 = .ok (.getfield 9, 3) := by decide +kernel
theorem dX7_richestHeir_28 : decode cX7_richestHeir 28 = .ok (.iload_n 3, 1) := by decide +kernel
theorem dX7_richestHeir_29 : decode cX7_richestHeir 29 = .ok (.iaload, 1) := by decide +kernel
theorem dX7_richestHeir_30 : decode cX7_richestHeir 30 = .ok (.istore_n 2, 1) := by decide +kernel
theorem dX7_richestHeir_31 : decode cX7_richestHeir 31 = .ok (.iload_n 3, 1) := by decide +kernel
theorem dX7_richestHeir_32 : decode cX7_richestHeir 32 = .ok (.istore_n 1, 1) := by decide +kernel
theorem dX7_richestHeir_33 : decode cX7_richestHeir 33 = .ok (.iinc 3 1, 3) := by decide +kernel
theorem dX7_richestHeir_36 : decode cX7_richestHeir 36 = .ok (.goto (-30), 3) := by decide +kernel
theorem dX7_richestHeir_39 : decode cX7_richestHeir 39 = .ok (.iload_n 1, 1) := by decide +kernel
theorem dX7_richestHeir_40 : decode cX7_richestHeir 40 = .ok (.ireturn, 1) := by decide +kernel
theorem dX7_hasMost_0 : decode cX7_hasMost 0 = .ok (.aload_n 0, 1) := by decide +kernel
theorem dX7_hasMost_1 : decode cX7_hasMost 1 = .ok (.getfield 9, 3) := by decide +kernel
theorem dX7_hasMost_4 : decode cX7_hasMost 4 = .ok (.iload_n 1, 1) := by decide +kernel
theorem dX7_hasMost_5 : decode cX7_hasMost 5 = .ok (.iaload, 1) := by decide +kernel
theorem dX7_hasMost_6 : decode cX7_hasMost 6 = .ok (.ifCond .gt 5, 3) := by decide +kernel
theorem dX7_hasMost_9 : decode cX7_hasMost 9 = .ok (.iconst 0, 1) := by decide +kernel
theorem dX7_hasMost_10 : decode cX7_hasMost 10 = .ok (.ireturn, 1) := by decide +kernel
theorem dX7_hasMost_11 : decode cX7_hasMost 11 = .ok (.iconst 0, 1) := by decide +kernel
theorem dX7_hasMost_12 : decode cX7_hasMost 12 = .ok (.istore_n 2, 1) := by decide +kernel
theorem dX7_hasMost_13 : decode cX7_hasMost 13 = .ok (.iload_n 2, 1) := by decide +kernel
theorem dX7_hasMost_14 : decode cX7_hasMost 14 = .ok (.aload_n 0, 1) := by decide +kernel
theorem dX7_hasMost_15 : decode cX7_hasMost 15 = .ok (.getfield 21, 3) := by decide +kernel
theorem dX7_hasMost_18 : decode cX7_hasMost 18 = .ok (.if_icmp .ge 31, 3) := by decide +kernel
theorem dX7_hasMost_21 : decode cX7_hasMost 21 = .ok (.iload_n 2, 1) := by decide +kernel
theorem dX7_hasMost_22 : decode cX7_hasMost 22 = .ok (.iload_n 1, 1) := by decide +kernel
theorem dX7_hasMost_23 : decode cX7_hasMost 23 = .ok (.if_icmp .eq 20, 3) := by decide +kernel
theorem dX7_hasMost_26 : decode cX7_hasMost 26 = .ok (.aload_n 0, 1) := by decide +kernel
theorem dX7_hasMost_27 : decode cX7_hasMost 27 = .ok (.getfield 9, 3) := by decide +kernel
theorem dX7_hasMost_30 : decode cX7_hasMost 30 = .ok (.iload_n 2, 1) := by decide +kernel
theorem dX7_hasMost_31 : decode cX7_hasMost 31 = .ok (.iaload, 1) := by decide +kernel
theorem dX7_hasMost_32 : decode cX7_hasMost 32 = .ok (.aload_n 0, 1) := by decide +kernel
theorem dX7_hasMost_33 : decode cX7_hasMost 33 = .ok (.getfield 9, 3) := by decide +kernel
theorem dX7_hasMost_36 : decode cX7_hasMost 36 = .ok (.iload_n 1, 1) := by decide +kernel
theorem dX7_hasMost_37 : decode cX7_hasMost 37 = .ok (.iaload, 1) := by decide +kernel
theorem dX7_hasMost_38 : decode cX7_hasMost 38 = .ok (.if_icmp .lt 5, 3) := by decide +kernel
theorem dX7_hasMost_41 : decode cX7_hasMost 41 = .ok (.iconst 0, 1) := by decide +kernel
theorem dX7_hasMost_42 : decode cX7_hasMost 42 = .ok (.ireturn, 1) := by decide +kernel
theorem dX7_hasMost_43 : decode cX7_hasMost 43 = .ok (.iinc 2 1, 3) := by decide +kernel
theorem dX7_hasMost_46 : decode cX7_hasMost 46 = .ok (.goto (-33), 3) := by decide +kernel
theorem dX7_hasMost_49 : decode cX7_hasMost 49 = .ok (.iconst 1, 1) := by decide +kernel
theorem dX7_hasMost_50 : decode cX7_hasMost 50 = .ok (.ireturn, 1) := by decide +kernel
theorem dX8_init_0 : decode cX8_init 0 = .ok (.aload_n 0, 1) := by decide +kernel
theorem dX8_init_1 : decode cX8_init 1 = .ok (.invokespecial 3, 3) := by decide +kernel
theorem dX8_init_4 : decode cX8_init 4 = .ok (.aload_n 0, 1) := by decide +kernel
theorem dX8_init_5 : decode cX8_init 5 = .ok (.bipush 8, 2) := by decide +kernel
theorem dX8_init_7 : decode cX8_init 7 = .ok (.newarray .int, 2) := by decide +kernel
theorem dX8_init_9 : decode cX8_init 9 = .ok (.putfield 9, 3) := by decide +kernel
theorem dX8_init_12 : decode cX8_init 12 = .ok (.aload_n 0, 1) := by decide +kernel
theorem dX8_init_13 : decode cX8_init 13 = .ok (.bipush 8, 2) := by decide +kernel
theorem dX8_init_15 : decode cX8_init 15 = .ok (.newarray .int, 2) := by decide +kernel
theorem dX8_init_17 : decode cX8_init 17 = .ok (.putfield 15, 3) := by decide +kernel
theorem dX8_init_20 : decode cX8_init 20 = .ok (.aload_n 0, 1) := by decide +kernel
theorem dX8_init_21 : decode cX8_init 21 = .ok (.iconst 0, 1) := by decide +kernel
theorem dX8_init_22 : decode cX8_init 22 = .ok (.putfield 18, 3) := by decide +kernel
theorem dX8_init_25 : decode cX8_init 25 = .ok (.return_, 1) := by decide +kernel
theorem dX8_append_0 : decode cX8_append 0 = .ok (.aload_n 0, 1) := by decide +kernel
theorem dX8_append_1 : decode cX8_append 1 = .ok (.getfield 18, 3) := by decide +kernel
theorem dX8_append_4 : decode cX8_append 4 = .ok (.bipush 8, 2) := by decide +kernel
theorem dX8_append_6 : decode cX8_append 6 = .ok (.if_icmp .ge 33, 3) := by decide +kernel
theorem dX8_append_9 : decode cX8_append 9 = .ok (.aload_n 0, 1) := by decide +kernel
theorem dX8_append_10 : decode cX8_append 10 = .ok (.getfield 9, 3) := by decide +kernel
theorem dX8_append_13 : decode cX8_append 13 = .ok (.aload_n 0, 1) := by decide +kernel
theorem dX8_append_14 : decode cX8_append 14 = .ok (.getfield 18, 3) := by decide +kernel
theorem dX8_append_17 : decode cX8_append 17 = .ok (.iload_n 1, 1) := by decide +kernel
theorem dX8_append_18 : decode cX8_append 18 = .ok (.iastore, 1) := by decide +kernel
theorem dX8_append_19 : decode cX8_append 19 = .ok (.aload_n 0, 1) := by decide +kernel
theorem dX8_append_20 : decode cX8_append 20 = .ok (.getfield 15, 3) := by decide +kernel
theorem dX8_append_23 : decode cX8_append 23 = .ok (.aload_n 0, 1) := by decide +kernel
theorem dX8_append_24 : decode cX8_append 24 = .ok (.getfield 18, 3) := by decide +kernel
theorem dX8_append_27 : decode cX8_append 27 = .ok (.iload_n 2, 1) := by decide +kernel
theorem dX8_append_28 : decode cX8_append 28 = .ok (.iastore, 1) := by decide +kernel
theorem dX8_append_29 : decode cX8_append 29 = .ok (.aload_n 0, 1) := by decide +kernel
theorem dX8_append_30 : decode cX8_append 30 = .ok (.dup, 1) := by decide +kernel
theorem dX8_append_31 : decode cX8_append 31 = .ok (.getfield 18, 3) := by decide +kernel
theorem dX8_append_34 : decode cX8_append 34 = .ok (.iconst 1, 1) := by decide +kernel
theorem dX8_append_35 : decode cX8_append 35 = .ok (.iadd, 1) := by decide +kernel
theorem dX8_append_36 : decode cX8_append 36 = .ok (.putfield 18, 3) := by decide +kernel
theorem dX8_append_39 : decode cX8_append 39 = .ok (.return_, 1) := by decide +kernel
theorem dX8_agrees_0 : decode cX8_agrees 0 = .ok (.iconst 0, 1) := by decide +kernel
theorem dX8_agrees_1 : decode cX8_agrees 1 = .ok (.istore_n 2, 1) := by decide +kernel
theorem dX8_agrees_2 : decode cX8_agrees 2 = .ok (.iload_n 2, 1) := by decide +kernel
theorem dX8_agrees_3 : decode cX8_agrees 3 = .ok (.aload_n 0, 1) := by decide +kernel
theorem dX8_agrees_4 : decode cX8_agrees 4 = .ok (.getfield 18, 3) := by decide +kernel
theorem dX8_agrees_7 : decode cX8_agrees 7 = .ok (.if_icmp .ge 47, 3) := by decide +kernel
theorem dX8_agrees_10 : decode cX8_agrees 10 = .ok (.aload_n 0, 1) := by decide +kernel
theorem dX8_agrees_11 : decode cX8_agrees 11 = .ok (.getfield 9, 3) := by decide +kernel
theorem dX8_agrees_14 : decode cX8_agrees 14 = .ok (.iload_n 2, 1) := by decide +kernel
theorem dX8_agrees_15 : decode cX8_agrees 15 = .ok (.iaload, 1) := by decide +kernel
theorem dX8_agrees_16 : decode cX8_agrees 16 = .ok (.aload_n 1, 1) := by decide +kernel
theorem dX8_agrees_17 : decode cX8_agrees 17 = .ok (.getfield 22, 3) := by decide +kernel
theorem dX8_agrees_20 : decode cX8_agrees 20 = .ok (.getfield 28, 3) := by decide +kernel
theorem dX8_agrees_23 : decode cX8_agrees 23 = .ok (.if_icmp .ge 23, 3) := by decide +kernel
theorem dX8_agrees_26 : decode cX8_agrees 26 = .ok (.aload_n 1, 1) := by decide +kernel
theorem dX8_agrees_27 : decode cX8_agrees 27 = .ok (.getfield 32, 3) := by decide +kernel
theorem dX8_agrees_30 : decode cX8_agrees 30 = .ok (.aload_n 0, 1) := by decide +kernel
theorem dX8_agrees_31 : decode cX8_agrees 31 = .ok (.getfield 9, 3) := by decide +kernel
theorem dX8_agrees_34 : decode cX8_agrees 34 = .ok (.iload_n 2, 1) := by decide +kernel
theorem dX8_agrees_35 : decode cX8_agrees 35 = .ok (.iaload, 1) := by decide +kernel
theorem dX8_agrees_36 : decode cX8_agrees 36 = .ok (.iaload, 1) := by decide +kernel
theorem dX8_agrees_37 : decode cX8_agrees 37 = .ok (.aload_n 0, 1) := by decide +kernel
theorem dX8_agrees_38 : decode cX8_agrees 38 = .ok (.getfield 15, 3) := by decide +kernel
theorem dX8_agrees_41 : decode cX8_agrees 41 = .ok (.iload_n 2, 1) := by decide +kernel
theorem dX8_agrees_42 : decode cX8_agrees 42 = .ok (.iaload, 1) := by decide +kernel
theorem dX8_agrees_43 : decode cX8_agrees 43 = .ok (.if_icmp .eq 5, 3) := by decide +kernel
theorem dX8_agrees_46 : decode cX8_agrees 46 = .ok (.iconst 0, 1) := by decide +kernel
theorem dX8_agrees_47 : decode cX8_agrees 47 = .ok (.ireturn, 1) := by decide +kernel
theorem dX8_agrees_48 : decode cX8_agrees 48 = .ok (.iinc 2 1, 3) := by decide +kernel
theorem dX8_agrees_51 : decode cX8_agrees 51 = .ok (.goto (-49), 3) := by decide +kernel
theorem dX8_agrees_54 : decode cX8_agrees 54 = .ok (.iconst 1, 1) := by decide +kernel
theorem dX8_agrees_55 : decode cX8_agrees 55 = .ok (.ireturn, 1) := by decide +kernel
theorem dJ9_max_7cf53_0 : decode cJ9_max_7cf53 0 = .ok (.iload_n 0, 1) := by decide +kernel
theorem dJ9_max_7cf53_1 : decode cJ9_max_7cf53 1 = .ok (.iload_n 1, 1) := by decide +kernel
theorem dJ9_max_7cf53_2 : decode cJ9_max_7cf53 2 = .ok (.if_icmp .lt 7, 3) := by decide +kernel
theorem dJ9_max_7cf53_5 : decode cJ9_max_7cf53 5 = .ok (.iload_n 0, 1) := by decide +kernel
theorem dJ9_max_7cf53_6 : decode cJ9_max_7cf53 6 = .ok (.goto 4, 3) := by decide +kernel
theorem dJ9_max_7cf53_9 : decode cJ9_max_7cf53 9 = .ok (.iload_n 1, 1) := by decide +kernel
theorem dJ9_max_7cf53_10 : decode cJ9_max_7cf53 10 = .ok (.ireturn, 1) := by decide +kernel
theorem dJ9_min_7cf53_0 : decode cJ9_min_7cf53 0 = .ok (.iload_n 0, 1) := by decide +kernel
theorem dJ9_min_7cf53_1 : decode cJ9_min_7cf53 1 = .ok (.iload_n 1, 1) := by decide +kernel
theorem dJ9_min_7cf53_2 : decode cJ9_min_7cf53 2 = .ok (.if_icmp .gt 7, 3) := by decide +kernel
theorem dJ9_min_7cf53_5 : decode cJ9_min_7cf53 5 = .ok (.iload_n 0, 1) := by decide +kernel
theorem dJ9_min_7cf53_6 : decode cJ9_min_7cf53 6 = .ok (.goto 4, 3) := by decide +kernel
theorem dJ9_min_7cf53_9 : decode cJ9_min_7cf53 9 = .ok (.iload_n 1, 1) := by decide +kernel
theorem dJ9_min_7cf53_10 : decode cJ9_min_7cf53 10 = .ok (.ireturn, 1) := by decide +kernel
theorem dJ7_fill_53178_0 : decode cJ7_fill_53178 0 = .ok (.iconst 0, 1) := by decide +kernel
theorem dJ7_fill_53178_1 : decode cJ7_fill_53178 1 = .ok (.istore_n 2, 1) := by decide +kernel
theorem dJ7_fill_53178_2 : decode cJ7_fill_53178 2 = .ok (.aload_n 0, 1) := by decide +kernel
theorem dJ7_fill_53178_3 : decode cJ7_fill_53178 3 = .ok (.arraylength, 1) := by decide +kernel
theorem dJ7_fill_53178_4 : decode cJ7_fill_53178 4 = .ok (.istore_n 3, 1) := by decide +kernel
theorem dJ7_fill_53178_5 : decode cJ7_fill_53178 5 = .ok (.iload_n 2, 1) := by decide +kernel
theorem dJ7_fill_53178_6 : decode cJ7_fill_53178 6 = .ok (.iload_n 3, 1) := by decide +kernel
theorem dJ7_fill_53178_7 : decode cJ7_fill_53178 7 = .ok (.if_icmp .ge 13, 3) := by decide +kernel
theorem dJ7_fill_53178_10 : decode cJ7_fill_53178 10 = .ok (.aload_n 0, 1) := by decide +kernel
theorem dJ7_fill_53178_11 : decode cJ7_fill_53178 11 = .ok (.iload_n 2, 1) := by decide +kernel
theorem dJ7_fill_53178_12 : decode cJ7_fill_53178 12 = .ok (.iload_n 1, 1) := by decide +kernel
theorem dJ7_fill_53178_13 : decode cJ7_fill_53178 13 = .ok (.iastore, 1) := by decide +kernel
theorem dJ7_fill_53178_14 : decode cJ7_fill_53178 14 = .ok (.iinc 2 1, 3) := by decide +kernel
theorem dJ7_fill_53178_17 : decode cJ7_fill_53178 17 = .ok (.goto (-12), 3) := by decide +kernel
theorem dJ7_fill_53178_20 : decode cJ7_fill_53178 20 = .ok (.return_, 1) := by decide +kernel
theorem dL_law_0 : decode cL_law 0 = .ok (.new 7, 3) := by decide +kernel
theorem dL_law_3 : decode cL_law 3 = .ok (.dup, 1) := by decide +kernel
theorem dL_law_4 : decode cL_law 4 = .ok (.invokespecial 9, 3) := by decide +kernel
theorem dL_law_7 : decode cL_law 7 = .ok (.astore_n 1, 1) := by decide +kernel
theorem dL_law_8 : decode cL_law 8 = .ok (.new 10, 3) := by decide +kernel
theorem dL_law_11 : decode cL_law 11 = .ok (.dup, 1) := by decide +kernel
theorem dL_law_12 : decode cL_law 12 = .ok (.invokespecial 12, 3) := by decide +kernel
theorem dL_law_15 : decode cL_law 15 = .ok (.astore_n 2, 1) := by decide +kernel
theorem dL_law_16 : decode cL_law 16 = .ok (.iconst 0, 1) := by decide +kernel
theorem dL_law_17 : decode cL_law 17 = .ok (.istore_n 3, 1) := by decide +kernel
theorem dL_law_18 : decode cL_law 18 = .ok (.iload_n 3, 1) := by decide +kernel
theorem dL_law_19 : decode cL_law 19 = .ok (.aload_n 0, 1) := by decide +kernel
theorem dL_law_20 : decode cL_law 20 = .ok (.arraylength, 1) := by decide +kernel
theorem dL_law_21 : decode cL_law 21 = .ok (.bipush 6, 2) := by decide +kernel
theorem dL_law_23 : decode cL_law 23 = .ok (.isub, 1) := by decide +kernel
theorem dL_law_24 : decode cL_law 24 = .ok (.if_icmp .gt 1164, 3) := by decide +kernel
theorem dL_law_27 : decode cL_law 27 = .ok (.aload_n 0, 1) := by decide +kernel
theorem dL_law_28 : decode cL_law 28 = .ok (.iload_n 3, 1) := by decide +kernel
theorem dL_law_29 : decode cL_law 29 = .ok (.iaload, 1) := by decide +kernel
theorem dL_law_30 : decode cL_law 30 = .ok (.bipush 63, 2) := by decide +kernel
theorem dL_law_32 : decode cL_law 32 = .ok (.iand, 1) := by decide +kernel
theorem dL_law_33 : decode cL_law 33 = .ok (.tableswitch 1149 0 35 #[159, 192, 215, 238, 261, 294, 317, 350, 373, 386, 409, 442, 485, 498, 511, 524, 537, 550, 573, 596, 619, 652, 685, 698, 711, 744, 767, 811, 854, 897, 920, 973, 1016, 1079, 1112, 1135], 159) := by decide +kernel
theorem dL_law_192 : decode cL_law 192 = .ok (.aload_n 1, 1) := by decide +kernel
theorem dL_law_193 : decode cL_law 193 = .ok (.aload_n 0, 1) := by decide +kernel
theorem dL_law_194 : decode cL_law 194 = .ok (.iload_n 3, 1) := by decide +kernel
theorem dL_law_195 : decode cL_law 195 = .ok (.iconst 1, 1) := by decide +kernel
theorem dL_law_196 : decode cL_law 196 = .ok (.iadd, 1) := by decide +kernel
theorem dL_law_197 : decode cL_law 197 = .ok (.iaload, 1) := by decide +kernel
theorem dL_law_198 : decode cL_law 198 = .ok (.aload_n 0, 1) := by decide +kernel
theorem dL_law_199 : decode cL_law 199 = .ok (.iload_n 3, 1) := by decide +kernel
theorem dL_law_200 : decode cL_law 200 = .ok (.iconst 2, 1) := by decide +kernel
theorem dL_law_201 : decode cL_law 201 = .ok (.iadd, 1) := by decide +kernel
theorem dL_law_202 : decode cL_law 202 = .ok (.iaload, 1) := by decide +kernel
theorem dL_law_203 : decode cL_law 203 = .ok (.invokevirtual 13, 3) := by decide +kernel
theorem dL_law_206 : decode cL_law 206 = .ok (.aload_n 2, 1) := by decide +kernel
theorem dL_law_207 : decode cL_law 207 = .ok (.aload_n 0, 1) := by decide +kernel
theorem dL_law_208 : decode cL_law 208 = .ok (.iload_n 3, 1) := by decide +kernel
theorem dL_law_209 : decode cL_law 209 = .ok (.iconst 1, 1) := by decide +kernel
theorem dL_law_210 : decode cL_law 210 = .ok (.iadd, 1) := by decide +kernel
theorem dL_law_211 : decode cL_law 211 = .ok (.iaload, 1) := by decide +kernel
theorem dL_law_212 : decode cL_law 212 = .ok (.aload_n 0, 1) := by decide +kernel
theorem dL_law_213 : decode cL_law 213 = .ok (.iload_n 3, 1) := by decide +kernel
theorem dL_law_214 : decode cL_law 214 = .ok (.iconst 2, 1) := by decide +kernel
theorem dL_law_215 : decode cL_law 215 = .ok (.iadd, 1) := by decide +kernel
theorem dL_law_216 : decode cL_law 216 = .ok (.iaload, 1) := by decide +kernel
theorem dL_law_217 : decode cL_law 217 = .ok (.invokevirtual 17, 3) := by decide +kernel
theorem dL_law_220 : decode cL_law 220 = .ok (.if_icmp .eq 962, 3) := by decide +kernel
theorem dL_law_223 : decode cL_law 223 = .ok (.iconst 0, 1) := by decide +kernel
theorem dL_law_224 : decode cL_law 224 = .ok (.ireturn, 1) := by decide +kernel
theorem dL_law_225 : decode cL_law 225 = .ok (.aload_n 1, 1) := by decide +kernel
theorem dL_law_226 : decode cL_law 226 = .ok (.aload_n 0, 1) := by decide +kernel
theorem dL_law_227 : decode cL_law 227 = .ok (.iload_n 3, 1) := by decide +kernel
theorem dL_law_228 : decode cL_law 228 = .ok (.iconst 1, 1) := by decide +kernel
theorem dL_law_229 : decode cL_law 229 = .ok (.iadd, 1) := by decide +kernel
theorem dL_law_230 : decode cL_law 230 = .ok (.iaload, 1) := by decide +kernel
theorem dL_law_231 : decode cL_law 231 = .ok (.invokevirtual 18, 3) := by decide +kernel
theorem dL_law_234 : decode cL_law 234 = .ok (.aload_n 2, 1) := by decide +kernel
theorem dL_law_235 : decode cL_law 235 = .ok (.aload_n 0, 1) := by decide +kernel
theorem dL_law_236 : decode cL_law 236 = .ok (.iload_n 3, 1) := by decide +kernel
theorem dL_law_237 : decode cL_law 237 = .ok (.iconst 1, 1) := by decide +kernel
theorem dL_law_238 : decode cL_law 238 = .ok (.iadd, 1) := by decide +kernel
theorem dL_law_239 : decode cL_law 239 = .ok (.iaload, 1) := by decide +kernel
theorem dL_law_240 : decode cL_law 240 = .ok (.invokevirtual 22, 3) := by decide +kernel
theorem dL_law_243 : decode cL_law 243 = .ok (.if_icmp .eq 939, 3) := by decide +kernel
theorem dL_law_246 : decode cL_law 246 = .ok (.iconst 0, 1) := by decide +kernel
theorem dL_law_247 : decode cL_law 247 = .ok (.ireturn, 1) := by decide +kernel
theorem dL_law_248 : decode cL_law 248 = .ok (.aload_n 1, 1) := by decide +kernel
theorem dL_law_249 : decode cL_law 249 = .ok (.aload_n 0, 1) := by decide +kernel
theorem dL_law_250 : decode cL_law 250 = .ok (.iload_n 3, 1) := by decide +kernel
theorem dL_law_251 : decode cL_law 251 = .ok (.iconst 1, 1) := by decide +kernel
theorem dL_law_252 : decode cL_law 252 = .ok (.iadd, 1) := by decide +kernel
theorem dL_law_253 : decode cL_law 253 = .ok (.iaload, 1) := by decide +kernel
theorem dL_law_254 : decode cL_law 254 = .ok (.invokevirtual 23, 3) := by decide +kernel
theorem dL_law_257 : decode cL_law 257 = .ok (.aload_n 2, 1) := by decide +kernel
theorem dL_law_258 : decode cL_law 258 = .ok (.aload_n 0, 1) := by decide +kernel
theorem dL_law_259 : decode cL_law 259 = .ok (.iload_n 3, 1) := by decide +kernel
theorem dL_law_260 : decode cL_law 260 = .ok (.iconst 1, 1) := by decide +kernel
theorem dL_law_261 : decode cL_law 261 = .ok (.iadd, 1) := by decide +kernel
theorem dL_law_262 : decode cL_law 262 = .ok (.iaload, 1) := by decide +kernel
theorem dL_law_263 : decode cL_law 263 = .ok (.invokevirtual 26, 3) := by decide +kernel
theorem dL_law_266 : decode cL_law 266 = .ok (.if_icmp .eq 916, 3) := by decide +kernel
theorem dL_law_269 : decode cL_law 269 = .ok (.iconst 0, 1) := by decide +kernel
theorem dL_law_270 : decode cL_law 270 = .ok (.ireturn, 1) := by decide +kernel
theorem dL_law_271 : decode cL_law 271 = .ok (.aload_n 1, 1) := by decide +kernel
theorem dL_law_272 : decode cL_law 272 = .ok (.aload_n 0, 1) := by decide +kernel
theorem dL_law_273 : decode cL_law 273 = .ok (.iload_n 3, 1) := by decide +kernel
theorem dL_law_274 : decode cL_law 274 = .ok (.iconst 1, 1) := by decide +kernel
theorem dL_law_275 : decode cL_law 275 = .ok (.iadd, 1) := by decide +kernel
theorem dL_law_276 : decode cL_law 276 = .ok (.iaload, 1) := by decide +kernel
theorem dL_law_277 : decode cL_law 277 = .ok (.invokevirtual 27, 3) := by decide +kernel
theorem dL_law_280 : decode cL_law 280 = .ok (.aload_n 2, 1) := by decide +kernel
theorem dL_law_281 : decode cL_law 281 = .ok (.aload_n 0, 1) := by decide +kernel
theorem dL_law_282 : decode cL_law 282 = .ok (.iload_n 3, 1) := by decide +kernel
theorem dL_law_283 : decode cL_law 283 = .ok (.iconst 1, 1) := by decide +kernel
theorem dL_law_284 : decode cL_law 284 = .ok (.iadd, 1) := by decide +kernel
theorem dL_law_285 : decode cL_law 285 = .ok (.iaload, 1) := by decide +kernel
theorem dL_law_286 : decode cL_law 286 = .ok (.invokevirtual 30, 3) := by decide +kernel
theorem dL_law_289 : decode cL_law 289 = .ok (.if_icmp .eq 893, 3) := by decide +kernel
theorem dL_law_292 : decode cL_law 292 = .ok (.iconst 0, 1) := by decide +kernel
theorem dL_law_293 : decode cL_law 293 = .ok (.ireturn, 1) := by decide +kernel
theorem dL_law_294 : decode cL_law 294 = .ok (.aload_n 1, 1) := by decide +kernel
theorem dL_law_295 : decode cL_law 295 = .ok (.aload_n 0, 1) := by decide +kernel
theorem dL_law_296 : decode cL_law 296 = .ok (.iload_n 3, 1) := by decide +kernel
theorem dL_law_297 : decode cL_law 297 = .ok (.iconst 1, 1) := by decide +kernel
theorem dL_law_298 : decode cL_law 298 = .ok (.iadd, 1) := by decide +kernel
theorem dL_law_299 : decode cL_law 299 = .ok (.iaload, 1) := by decide +kernel
theorem dL_law_300 : decode cL_law 300 = .ok (.aload_n 0, 1) := by decide +kernel
theorem dL_law_301 : decode cL_law 301 = .ok (.iload_n 3, 1) := by decide +kernel
theorem dL_law_302 : decode cL_law 302 = .ok (.iconst 2, 1) := by decide +kernel
theorem dL_law_303 : decode cL_law 303 = .ok (.iadd, 1) := by decide +kernel
theorem dL_law_304 : decode cL_law 304 = .ok (.iaload, 1) := by decide +kernel
theorem dL_law_305 : decode cL_law 305 = .ok (.invokevirtual 31, 3) := by decide +kernel
theorem dL_law_308 : decode cL_law 308 = .ok (.aload_n 2, 1) := by decide +kernel
theorem dL_law_309 : decode cL_law 309 = .ok (.aload_n 0, 1) := by decide +kernel
theorem dL_law_310 : decode cL_law 310 = .ok (.iload_n 3, 1) := by decide +kernel
theorem dL_law_311 : decode cL_law 311 = .ok (.iconst 1, 1) := by decide +kernel
theorem dL_law_312 : decode cL_law 312 = .ok (.iadd, 1) := by decide +kernel
theorem dL_law_313 : decode cL_law 313 = .ok (.iaload, 1) := by decide +kernel
theorem dL_law_314 : decode cL_law 314 = .ok (.aload_n 0, 1) := by decide +kernel
theorem dL_law_315 : decode cL_law 315 = .ok (.iload_n 3, 1) := by decide +kernel
theorem dL_law_316 : decode cL_law 316 = .ok (.iconst 2, 1) := by decide +kernel
theorem dL_law_317 : decode cL_law 317 = .ok (.iadd, 1) := by decide +kernel
theorem dL_law_318 : decode cL_law 318 = .ok (.iaload, 1) := by decide +kernel
theorem dL_law_319 : decode cL_law 319 = .ok (.invokevirtual 34, 3) := by decide +kernel
theorem dL_law_322 : decode cL_law 322 = .ok (.if_icmp .eq 860, 3) := by decide +kernel
theorem dL_law_325 : decode cL_law 325 = .ok (.iconst 0, 1) := by decide +kernel
theorem dL_law_326 : decode cL_law 326 = .ok (.ireturn, 1) := by decide +kernel
theorem dL_law_327 : decode cL_law 327 = .ok (.aload_n 1, 1) := by decide +kernel
theorem dL_law_328 : decode cL_law 328 = .ok (.aload_n 0, 1) := by decide +kernel
theorem dL_law_329 : decode cL_law 329 = .ok (.iload_n 3, 1) := by decide +kernel
theorem dL_law_330 : decode cL_law 330 = .ok (.iconst 1, 1) := by decide +kernel
theorem dL_law_331 : decode cL_law 331 = .ok (.iadd, 1) := by decide +kernel
theorem dL_law_332 : decode cL_law 332 = .ok (.iaload, 1) := by decide +kernel
theorem dL_law_333 : decode cL_law 333 = .ok (.invokevirtual 35, 3) := by decide +kernel
theorem dL_law_336 : decode cL_law 336 = .ok (.aload_n 2, 1) := by decide +kernel
theorem dL_law_337 : decode cL_law 337 = .ok (.aload_n 0, 1) := by decide +kernel
theorem dL_law_338 : decode cL_law 338 = .ok (.iload_n 3, 1) := by decide +kernel
theorem dL_law_339 : decode cL_law 339 = .ok (.iconst 1, 1) := by decide +kernel
theorem dL_law_340 : decode cL_law 340 = .ok (.iadd, 1) := by decide +kernel
theorem dL_law_341 : decode cL_law 341 = .ok (.iaload, 1) := by decide +kernel
theorem dL_law_342 : decode cL_law 342 = .ok (.invokevirtual 38, 3) := by decide +kernel
theorem dL_law_345 : decode cL_law 345 = .ok (.if_icmp .eq 837, 3) := by decide +kernel
theorem dL_law_348 : decode cL_law 348 = .ok (.iconst 0, 1) := by decide +kernel
theorem dL_law_349 : decode cL_law 349 = .ok (.ireturn, 1) := by decide +kernel
theorem dL_law_350 : decode cL_law 350 = .ok (.aload_n 1, 1) := by decide +kernel
theorem dL_law_351 : decode cL_law 351 = .ok (.aload_n 0, 1) := by decide +kernel
theorem dL_law_352 : decode cL_law 352 = .ok (.iload_n 3, 1) := by decide +kernel
theorem dL_law_353 : decode cL_law 353 = .ok (.iconst 1, 1) := by decide +kernel
theorem dL_law_354 : decode cL_law 354 = .ok (.iadd, 1) := by decide +kernel
theorem dL_law_355 : decode cL_law 355 = .ok (.iaload, 1) := by decide +kernel
theorem dL_law_356 : decode cL_law 356 = .ok (.aload_n 0, 1) := by decide +kernel
theorem dL_law_357 : decode cL_law 357 = .ok (.iload_n 3, 1) := by decide +kernel
theorem dL_law_358 : decode cL_law 358 = .ok (.iconst 2, 1) := by decide +kernel
theorem dL_law_359 : decode cL_law 359 = .ok (.iadd, 1) := by decide +kernel
theorem dL_law_360 : decode cL_law 360 = .ok (.iaload, 1) := by decide +kernel
theorem dL_law_361 : decode cL_law 361 = .ok (.invokevirtual 39, 3) := by decide +kernel
theorem dL_law_364 : decode cL_law 364 = .ok (.aload_n 2, 1) := by decide +kernel
theorem dL_law_365 : decode cL_law 365 = .ok (.aload_n 0, 1) := by decide +kernel
theorem dL_law_366 : decode cL_law 366 = .ok (.iload_n 3, 1) := by decide +kernel
theorem dL_law_367 : decode cL_law 367 = .ok (.iconst 1, 1) := by decide +kernel
theorem dL_law_368 : decode cL_law 368 = .ok (.iadd, 1) := by decide +kernel
theorem dL_law_369 : decode cL_law 369 = .ok (.iaload, 1) := by decide +kernel
theorem dL_law_370 : decode cL_law 370 = .ok (.aload_n 0, 1) := by decide +kernel
theorem dL_law_371 : decode cL_law 371 = .ok (.iload_n 3, 1) := by decide +kernel
theorem dL_law_372 : decode cL_law 372 = .ok (.iconst 2, 1) := by decide +kernel
theorem dL_law_373 : decode cL_law 373 = .ok (.iadd, 1) := by decide +kernel
theorem dL_law_374 : decode cL_law 374 = .ok (.iaload, 1) := by decide +kernel
theorem dL_law_375 : decode cL_law 375 = .ok (.invokevirtual 42, 3) := by decide +kernel
theorem dL_law_378 : decode cL_law 378 = .ok (.if_icmp .eq 804, 3) := by decide +kernel
theorem dL_law_381 : decode cL_law 381 = .ok (.iconst 0, 1) := by decide +kernel
theorem dL_law_382 : decode cL_law 382 = .ok (.ireturn, 1) := by decide +kernel
theorem dL_law_383 : decode cL_law 383 = .ok (.aload_n 1, 1) := by decide +kernel
theorem dL_law_384 : decode cL_law 384 = .ok (.aload_n 0, 1) := by decide +kernel
theorem dL_law_385 : decode cL_law 385 = .ok (.iload_n 3, 1) := by decide +kernel
theorem dL_law_386 : decode cL_law 386 = .ok (.iconst 1, 1) := by decide +kernel
theorem dL_law_387 : decode cL_law 387 = .ok (.iadd, 1) := by decide +kernel
theorem dL_law_388 : decode cL_law 388 = .ok (.iaload, 1) := by decide +kernel
theorem dL_law_389 : decode cL_law 389 = .ok (.invokevirtual 43, 3) := by decide +kernel
theorem dL_law_392 : decode cL_law 392 = .ok (.aload_n 2, 1) := by decide +kernel
theorem dL_law_393 : decode cL_law 393 = .ok (.aload_n 0, 1) := by decide +kernel
theorem dL_law_394 : decode cL_law 394 = .ok (.iload_n 3, 1) := by decide +kernel
theorem dL_law_395 : decode cL_law 395 = .ok (.iconst 1, 1) := by decide +kernel
theorem dL_law_396 : decode cL_law 396 = .ok (.iadd, 1) := by decide +kernel
theorem dL_law_397 : decode cL_law 397 = .ok (.iaload, 1) := by decide +kernel
theorem dL_law_398 : decode cL_law 398 = .ok (.invokevirtual 46, 3) := by decide +kernel
theorem dL_law_401 : decode cL_law 401 = .ok (.if_icmp .eq 781, 3) := by decide +kernel
theorem dL_law_404 : decode cL_law 404 = .ok (.iconst 0, 1) := by decide +kernel
theorem dL_law_405 : decode cL_law 405 = .ok (.ireturn, 1) := by decide +kernel
theorem dL_law_406 : decode cL_law 406 = .ok (.aload_n 1, 1) := by decide +kernel
theorem dL_law_407 : decode cL_law 407 = .ok (.invokevirtual 47, 3) := by decide +kernel
theorem dL_law_410 : decode cL_law 410 = .ok (.aload_n 2, 1) := by decide +kernel
theorem dL_law_411 : decode cL_law 411 = .ok (.invokevirtual 51, 3) := by decide +kernel
theorem dL_law_414 : decode cL_law 414 = .ok (.if_icmp .eq 768, 3) := by decide +kernel
theorem dL_law_417 : decode cL_law 417 = .ok (.iconst 0, 1) := by decide +kernel
theorem dL_law_418 : decode cL_law 418 = .ok (.ireturn, 1) := by decide +kernel
theorem dL_law_419 : decode cL_law 419 = .ok (.aload_n 1, 1) := by decide +kernel
theorem dL_law_420 : decode cL_law 420 = .ok (.aload_n 0, 1) := by decide +kernel
theorem dL_law_421 : decode cL_law 421 = .ok (.iload_n 3, 1) := by decide +kernel
theorem dL_law_422 : decode cL_law 422 = .ok (.iconst 1, 1) := by decide +kernel
theorem dL_law_423 : decode cL_law 423 = .ok (.iadd, 1) := by decide +kernel
theorem dL_law_424 : decode cL_law 424 = .ok (.iaload, 1) := by decide +kernel
theorem dL_law_425 : decode cL_law 425 = .ok (.invokevirtual 52, 3) := by decide +kernel
theorem dL_law_428 : decode cL_law 428 = .ok (.aload_n 2, 1) := by decide +kernel
theorem dL_law_429 : decode cL_law 429 = .ok (.aload_n 0, 1) := by decide +kernel
theorem dL_law_430 : decode cL_law 430 = .ok (.iload_n 3, 1) := by decide +kernel
theorem dL_law_431 : decode cL_law 431 = .ok (.iconst 1, 1) := by decide +kernel
theorem dL_law_432 : decode cL_law 432 = .ok (.iadd, 1) := by decide +kernel
theorem dL_law_433 : decode cL_law 433 = .ok (.iaload, 1) := by decide +kernel
theorem dL_law_434 : decode cL_law 434 = .ok (.invokevirtual 55, 3) := by decide +kernel
theorem dL_law_437 : decode cL_law 437 = .ok (.if_icmp .eq 745, 3) := by decide +kernel
theorem dL_law_440 : decode cL_law 440 = .ok (.iconst 0, 1) := by decide +kernel
theorem dL_law_441 : decode cL_law 441 = .ok (.ireturn, 1) := by decide +kernel
theorem dL_law_442 : decode cL_law 442 = .ok (.aload_n 1, 1) := by decide +kernel
theorem dL_law_443 : decode cL_law 443 = .ok (.aload_n 0, 1) := by decide +kernel
theorem dL_law_444 : decode cL_law 444 = .ok (.iload_n 3, 1) := by decide +kernel
theorem dL_law_445 : decode cL_law 445 = .ok (.iconst 1, 1) := by decide +kernel
theorem dL_law_446 : decode cL_law 446 = .ok (.iadd, 1) := by decide +kernel
theorem dL_law_447 : decode cL_law 447 = .ok (.iaload, 1) := by decide +kernel
theorem dL_law_448 : decode cL_law 448 = .ok (.aload_n 0, 1) := by decide +kernel
theorem dL_law_449 : decode cL_law 449 = .ok (.iload_n 3, 1) := by decide +kernel
theorem dL_law_450 : decode cL_law 450 = .ok (.iconst 2, 1) := by decide +kernel
theorem dL_law_451 : decode cL_law 451 = .ok (.iadd, 1) := by decide +kernel
theorem dL_law_452 : decode cL_law 452 = .ok (.iaload, 1) := by decide +kernel
theorem dL_law_453 : decode cL_law 453 = .ok (.invokevirtual 56, 3) := by decide +kernel
theorem dL_law_456 : decode cL_law 456 = .ok (.aload_n 2, 1) := by decide +kernel
theorem dL_law_457 : decode cL_law 457 = .ok (.aload_n 0, 1) := by decide +kernel
theorem dL_law_458 : decode cL_law 458 = .ok (.iload_n 3, 1) := by decide +kernel
theorem dL_law_459 : decode cL_law 459 = .ok (.iconst 1, 1) := by decide +kernel
theorem dL_law_460 : decode cL_law 460 = .ok (.iadd, 1) := by decide +kernel
theorem dL_law_461 : decode cL_law 461 = .ok (.iaload, 1) := by decide +kernel
theorem dL_law_462 : decode cL_law 462 = .ok (.aload_n 0, 1) := by decide +kernel
theorem dL_law_463 : decode cL_law 463 = .ok (.iload_n 3, 1) := by decide +kernel
theorem dL_law_464 : decode cL_law 464 = .ok (.iconst 2, 1) := by decide +kernel
theorem dL_law_465 : decode cL_law 465 = .ok (.iadd, 1) := by decide +kernel
theorem dL_law_466 : decode cL_law 466 = .ok (.iaload, 1) := by decide +kernel
theorem dL_law_467 : decode cL_law 467 = .ok (.invokevirtual 59, 3) := by decide +kernel
theorem dL_law_470 : decode cL_law 470 = .ok (.if_icmp .eq 712, 3) := by decide +kernel
theorem dL_law_473 : decode cL_law 473 = .ok (.iconst 0, 1) := by decide +kernel
theorem dL_law_474 : decode cL_law 474 = .ok (.ireturn, 1) := by decide +kernel
theorem dL_law_475 : decode cL_law 475 = .ok (.aload_n 1, 1) := by decide +kernel
theorem dL_law_476 : decode cL_law 476 = .ok (.aload_n 0, 1) := by decide +kernel
theorem dL_law_477 : decode cL_law 477 = .ok (.iload_n 3, 1) := by decide +kernel
theorem dL_law_478 : decode cL_law 478 = .ok (.iconst 1, 1) := by decide +kernel
theorem dL_law_479 : decode cL_law 479 = .ok (.iadd, 1) := by decide +kernel
theorem dL_law_480 : decode cL_law 480 = .ok (.iaload, 1) := by decide +kernel
theorem dL_law_481 : decode cL_law 481 = .ok (.aload_n 0, 1) := by decide +kernel
theorem dL_law_482 : decode cL_law 482 = .ok (.iload_n 3, 1) := by decide +kernel
theorem dL_law_483 : decode cL_law 483 = .ok (.iconst 2, 1) := by decide +kernel
theorem dL_law_484 : decode cL_law 484 = .ok (.iadd, 1) := by decide +kernel
theorem dL_law_485 : decode cL_law 485 = .ok (.iaload, 1) := by decide +kernel
theorem dL_law_486 : decode cL_law 486 = .ok (.aload_n 0, 1) := by decide +kernel
theorem dL_law_487 : decode cL_law 487 = .ok (.iload_n 3, 1) := by decide +kernel
theorem dL_law_488 : decode cL_law 488 = .ok (.iconst 3, 1) := by decide +kernel
theorem dL_law_489 : decode cL_law 489 = .ok (.iadd, 1) := by decide +kernel
theorem dL_law_490 : decode cL_law 490 = .ok (.iaload, 1) := by decide +kernel
theorem dL_law_491 : decode cL_law 491 = .ok (.invokevirtual 60, 3) := by decide +kernel
theorem dL_law_494 : decode cL_law 494 = .ok (.aload_n 2, 1) := by decide +kernel
theorem dL_law_495 : decode cL_law 495 = .ok (.aload_n 0, 1) := by decide +kernel
theorem dL_law_496 : decode cL_law 496 = .ok (.iload_n 3, 1) := by decide +kernel
theorem dL_law_497 : decode cL_law 497 = .ok (.iconst 1, 1) := by decide +kernel
theorem dL_law_498 : decode cL_law 498 = .ok (.iadd, 1) := by decide +kernel
theorem dL_law_499 : decode cL_law 499 = .ok (.iaload, 1) := by decide +kernel
theorem dL_law_500 : decode cL_law 500 = .ok (.aload_n 0, 1) := by decide +kernel
theorem dL_law_501 : decode cL_law 501 = .ok (.iload_n 3, 1) := by decide +kernel
theorem dL_law_502 : decode cL_law 502 = .ok (.iconst 2, 1) := by decide +kernel
theorem dL_law_503 : decode cL_law 503 = .ok (.iadd, 1) := by decide +kernel
theorem dL_law_504 : decode cL_law 504 = .ok (.iaload, 1) := by decide +kernel
theorem dL_law_505 : decode cL_law 505 = .ok (.aload_n 0, 1) := by decide +kernel
theorem dL_law_506 : decode cL_law 506 = .ok (.iload_n 3, 1) := by decide +kernel
theorem dL_law_507 : decode cL_law 507 = .ok (.iconst 3, 1) := by decide +kernel
theorem dL_law_508 : decode cL_law 508 = .ok (.iadd, 1) := by decide +kernel
theorem dL_law_509 : decode cL_law 509 = .ok (.iaload, 1) := by decide +kernel
theorem dL_law_510 : decode cL_law 510 = .ok (.invokevirtual 64, 3) := by decide +kernel
theorem dL_law_513 : decode cL_law 513 = .ok (.if_icmp .eq 669, 3) := by decide +kernel
theorem dL_law_516 : decode cL_law 516 = .ok (.iconst 0, 1) := by decide +kernel
theorem dL_law_517 : decode cL_law 517 = .ok (.ireturn, 1) := by decide +kernel
theorem dL_law_518 : decode cL_law 518 = .ok (.aload_n 1, 1) := by decide +kernel
theorem dL_law_519 : decode cL_law 519 = .ok (.invokevirtual 65, 3) := by decide +kernel
theorem dL_law_522 : decode cL_law 522 = .ok (.aload_n 2, 1) := by decide +kernel
theorem dL_law_523 : decode cL_law 523 = .ok (.invokevirtual 68, 3) := by decide +kernel
theorem dL_law_526 : decode cL_law 526 = .ok (.if_icmp .eq 656, 3) := by decide +kernel
theorem dL_law_529 : decode cL_law 529 = .ok (.iconst 0, 1) := by decide +kernel
theorem dL_law_530 : decode cL_law 530 = .ok (.ireturn, 1) := by decide +kernel
theorem dL_law_531 : decode cL_law 531 = .ok (.aload_n 1, 1) := by decide +kernel
theorem dL_law_532 : decode cL_law 532 = .ok (.invokevirtual 69, 3) := by decide +kernel
theorem dL_law_535 : decode cL_law 535 = .ok (.aload_n 2, 1) := by decide +kernel
theorem dL_law_536 : decode cL_law 536 = .ok (.invokevirtual 72, 3) := by decide +kernel
theorem dL_law_539 : decode cL_law 539 = .ok (.if_icmp .eq 643, 3) := by decide +kernel
theorem dL_law_542 : decode cL_law 542 = .ok (.iconst 0, 1) := by decide +kernel
theorem dL_law_543 : decode cL_law 543 = .ok (.ireturn, 1) := by decide +kernel
theorem dL_law_544 : decode cL_law 544 = .ok (.aload_n 1, 1) := by decide +kernel
theorem dL_law_545 : decode cL_law 545 = .ok (.invokevirtual 73, 3) := by decide +kernel
theorem dL_law_548 : decode cL_law 548 = .ok (.aload_n 2, 1) := by decide +kernel
theorem dL_law_549 : decode cL_law 549 = .ok (.invokevirtual 76, 3) := by decide +kernel
theorem dL_law_552 : decode cL_law 552 = .ok (.if_icmp .eq 630, 3) := by decide +kernel
theorem dL_law_555 : decode cL_law 555 = .ok (.iconst 0, 1) := by decide +kernel
theorem dL_law_556 : decode cL_law 556 = .ok (.ireturn, 1) := by decide +kernel
theorem dL_law_557 : decode cL_law 557 = .ok (.aload_n 1, 1) := by decide +kernel
theorem dL_law_558 : decode cL_law 558 = .ok (.invokevirtual 77, 3) := by decide +kernel
theorem dL_law_561 : decode cL_law 561 = .ok (.aload_n 2, 1) := by decide +kernel
theorem dL_law_562 : decode cL_law 562 = .ok (.invokevirtual 80, 3) := by decide +kernel
theorem dL_law_565 : decode cL_law 565 = .ok (.if_icmp .eq 617, 3) := by decide +kernel
theorem dL_law_568 : decode cL_law 568 = .ok (.iconst 0, 1) := by decide +kernel
theorem dL_law_569 : decode cL_law 569 = .ok (.ireturn, 1) := by decide +kernel
theorem dL_law_570 : decode cL_law 570 = .ok (.aload_n 1, 1) := by decide +kernel
theorem dL_law_571 : decode cL_law 571 = .ok (.invokevirtual 81, 3) := by decide +kernel
theorem dL_law_574 : decode cL_law 574 = .ok (.aload_n 2, 1) := by decide +kernel
theorem dL_law_575 : decode cL_law 575 = .ok (.invokevirtual 84, 3) := by decide +kernel
theorem dL_law_578 : decode cL_law 578 = .ok (.if_icmp .eq 604, 3) := by decide +kernel
theorem dL_law_581 : decode cL_law 581 = .ok (.iconst 0, 1) := by decide +kernel
theorem dL_law_582 : decode cL_law 582 = .ok (.ireturn, 1) := by decide +kernel
theorem dL_law_583 : decode cL_law 583 = .ok (.aload_n 1, 1) := by decide +kernel
theorem dL_law_584 : decode cL_law 584 = .ok (.aload_n 0, 1) := by decide +kernel
theorem dL_law_585 : decode cL_law 585 = .ok (.iload_n 3, 1) := by decide +kernel
theorem dL_law_586 : decode cL_law 586 = .ok (.iconst 1, 1) := by decide +kernel
theorem dL_law_587 : decode cL_law 587 = .ok (.iadd, 1) := by decide +kernel
theorem dL_law_588 : decode cL_law 588 = .ok (.iaload, 1) := by decide +kernel
theorem dL_law_589 : decode cL_law 589 = .ok (.invokevirtual 85, 3) := by decide +kernel
theorem dL_law_592 : decode cL_law 592 = .ok (.aload_n 2, 1) := by decide +kernel
theorem dL_law_593 : decode cL_law 593 = .ok (.aload_n 0, 1) := by decide +kernel
theorem dL_law_594 : decode cL_law 594 = .ok (.iload_n 3, 1) := by decide +kernel
theorem dL_law_595 : decode cL_law 595 = .ok (.iconst 1, 1) := by decide +kernel
theorem dL_law_596 : decode cL_law 596 = .ok (.iadd, 1) := by decide +kernel
theorem dL_law_597 : decode cL_law 597 = .ok (.iaload, 1) := by decide +kernel
theorem dL_law_598 : decode cL_law 598 = .ok (.invokevirtual 88, 3) := by decide +kernel
theorem dL_law_601 : decode cL_law 601 = .ok (.if_icmp .eq 581, 3) := by decide +kernel
theorem dL_law_604 : decode cL_law 604 = .ok (.iconst 0, 1) := by decide +kernel
theorem dL_law_605 : decode cL_law 605 = .ok (.ireturn, 1) := by decide +kernel
theorem dL_law_606 : decode cL_law 606 = .ok (.aload_n 1, 1) := by decide +kernel
theorem dL_law_607 : decode cL_law 607 = .ok (.aload_n 0, 1) := by decide +kernel
theorem dL_law_608 : decode cL_law 608 = .ok (.iload_n 3, 1) := by decide +kernel
theorem dL_law_609 : decode cL_law 609 = .ok (.iconst 1, 1) := by decide +kernel
theorem dL_law_610 : decode cL_law 610 = .ok (.iadd, 1) := by decide +kernel
theorem dL_law_611 : decode cL_law 611 = .ok (.iaload, 1) := by decide +kernel
theorem dL_law_612 : decode cL_law 612 = .ok (.invokevirtual 89, 3) := by decide +kernel
theorem dL_law_615 : decode cL_law 615 = .ok (.aload_n 2, 1) := by decide +kernel
theorem dL_law_616 : decode cL_law 616 = .ok (.aload_n 0, 1) := by decide +kernel
theorem dL_law_617 : decode cL_law 617 = .ok (.iload_n 3, 1) := by decide +kernel
theorem dL_law_618 : decode cL_law 618 = .ok (.iconst 1, 1) := by decide +kernel
theorem dL_law_619 : decode cL_law 619 = .ok (.iadd, 1) := by decide +kernel
theorem dL_law_620 : decode cL_law 620 = .ok (.iaload, 1) := by decide +kernel
theorem dL_law_621 : decode cL_law 621 = .ok (.invokevirtual 92, 3) := by decide +kernel
theorem dL_law_624 : decode cL_law 624 = .ok (.if_icmp .eq 558, 3) := by decide +kernel
theorem dL_law_627 : decode cL_law 627 = .ok (.iconst 0, 1) := by decide +kernel
theorem dL_law_628 : decode cL_law 628 = .ok (.ireturn, 1) := by decide +kernel
theorem dL_law_629 : decode cL_law 629 = .ok (.aload_n 1, 1) := by decide +kernel
theorem dL_law_630 : decode cL_law 630 = .ok (.aload_n 0, 1) := by decide +kernel
theorem dL_law_631 : decode cL_law 631 = .ok (.iload_n 3, 1) := by decide +kernel
theorem dL_law_632 : decode cL_law 632 = .ok (.iconst 1, 1) := by decide +kernel
theorem dL_law_633 : decode cL_law 633 = .ok (.iadd, 1) := by decide +kernel
theorem dL_law_634 : decode cL_law 634 = .ok (.iaload, 1) := by decide +kernel
theorem dL_law_635 : decode cL_law 635 = .ok (.invokevirtual 93, 3) := by decide +kernel
theorem dL_law_638 : decode cL_law 638 = .ok (.aload_n 2, 1) := by decide +kernel
theorem dL_law_639 : decode cL_law 639 = .ok (.aload_n 0, 1) := by decide +kernel
theorem dL_law_640 : decode cL_law 640 = .ok (.iload_n 3, 1) := by decide +kernel
theorem dL_law_641 : decode cL_law 641 = .ok (.iconst 1, 1) := by decide +kernel
theorem dL_law_642 : decode cL_law 642 = .ok (.iadd, 1) := by decide +kernel
theorem dL_law_643 : decode cL_law 643 = .ok (.iaload, 1) := by decide +kernel
theorem dL_law_644 : decode cL_law 644 = .ok (.invokevirtual 96, 3) := by decide +kernel
theorem dL_law_647 : decode cL_law 647 = .ok (.if_icmp .eq 535, 3) := by decide +kernel
theorem dL_law_650 : decode cL_law 650 = .ok (.iconst 0, 1) := by decide +kernel
theorem dL_law_651 : decode cL_law 651 = .ok (.ireturn, 1) := by decide +kernel
theorem dL_law_652 : decode cL_law 652 = .ok (.aload_n 1, 1) := by decide +kernel
theorem dL_law_653 : decode cL_law 653 = .ok (.aload_n 0, 1) := by decide +kernel
theorem dL_law_654 : decode cL_law 654 = .ok (.iload_n 3, 1) := by decide +kernel
theorem dL_law_655 : decode cL_law 655 = .ok (.iconst 1, 1) := by decide +kernel
theorem dL_law_656 : decode cL_law 656 = .ok (.iadd, 1) := by decide +kernel
theorem dL_law_657 : decode cL_law 657 = .ok (.iaload, 1) := by decide +kernel
theorem dL_law_658 : decode cL_law 658 = .ok (.aload_n 0, 1) := by decide +kernel
theorem dL_law_659 : decode cL_law 659 = .ok (.iload_n 3, 1) := by decide +kernel
theorem dL_law_660 : decode cL_law 660 = .ok (.iconst 2, 1) := by decide +kernel
theorem dL_law_661 : decode cL_law 661 = .ok (.iadd, 1) := by decide +kernel
theorem dL_law_662 : decode cL_law 662 = .ok (.iaload, 1) := by decide +kernel
theorem dL_law_663 : decode cL_law 663 = .ok (.invokevirtual 97, 3) := by decide +kernel
theorem dL_law_666 : decode cL_law 666 = .ok (.aload_n 2, 1) := by decide +kernel
theorem dL_law_667 : decode cL_law 667 = .ok (.aload_n 0, 1) := by decide +kernel
theorem dL_law_668 : decode cL_law 668 = .ok (.iload_n 3, 1) := by decide +kernel
theorem dL_law_669 : decode cL_law 669 = .ok (.iconst 1, 1) := by decide +kernel
theorem dL_law_670 : decode cL_law 670 = .ok (.iadd, 1) := by decide +kernel
theorem dL_law_671 : decode cL_law 671 = .ok (.iaload, 1) := by decide +kernel
theorem dL_law_672 : decode cL_law 672 = .ok (.aload_n 0, 1) := by decide +kernel
theorem dL_law_673 : decode cL_law 673 = .ok (.iload_n 3, 1) := by decide +kernel
theorem dL_law_674 : decode cL_law 674 = .ok (.iconst 2, 1) := by decide +kernel
theorem dL_law_675 : decode cL_law 675 = .ok (.iadd, 1) := by decide +kernel
theorem dL_law_676 : decode cL_law 676 = .ok (.iaload, 1) := by decide +kernel
theorem dL_law_677 : decode cL_law 677 = .ok (.invokevirtual 100, 3) := by decide +kernel
theorem dL_law_680 : decode cL_law 680 = .ok (.if_icmp .eq 502, 3) := by decide +kernel
theorem dL_law_683 : decode cL_law 683 = .ok (.iconst 0, 1) := by decide +kernel
theorem dL_law_684 : decode cL_law 684 = .ok (.ireturn, 1) := by decide +kernel
theorem dL_law_685 : decode cL_law 685 = .ok (.aload_n 1, 1) := by decide +kernel
theorem dL_law_686 : decode cL_law 686 = .ok (.aload_n 0, 1) := by decide +kernel
theorem dL_law_687 : decode cL_law 687 = .ok (.iload_n 3, 1) := by decide +kernel
theorem dL_law_688 : decode cL_law 688 = .ok (.iconst 1, 1) := by decide +kernel
theorem dL_law_689 : decode cL_law 689 = .ok (.iadd, 1) := by decide +kernel
theorem dL_law_690 : decode cL_law 690 = .ok (.iaload, 1) := by decide +kernel
theorem dL_law_691 : decode cL_law 691 = .ok (.aload_n 0, 1) := by decide +kernel
theorem dL_law_692 : decode cL_law 692 = .ok (.iload_n 3, 1) := by decide +kernel
theorem dL_law_693 : decode cL_law 693 = .ok (.iconst 2, 1) := by decide +kernel
theorem dL_law_694 : decode cL_law 694 = .ok (.iadd, 1) := by decide +kernel
theorem dL_law_695 : decode cL_law 695 = .ok (.iaload, 1) := by decide +kernel
theorem dL_law_696 : decode cL_law 696 = .ok (.invokevirtual 101, 3) := by decide +kernel
theorem dL_law_699 : decode cL_law 699 = .ok (.aload_n 2, 1) := by decide +kernel
theorem dL_law_700 : decode cL_law 700 = .ok (.aload_n 0, 1) := by decide +kernel
theorem dL_law_701 : decode cL_law 701 = .ok (.iload_n 3, 1) := by decide +kernel
theorem dL_law_702 : decode cL_law 702 = .ok (.iconst 1, 1) := by decide +kernel
theorem dL_law_703 : decode cL_law 703 = .ok (.iadd, 1) := by decide +kernel
theorem dL_law_704 : decode cL_law 704 = .ok (.iaload, 1) := by decide +kernel
theorem dL_law_705 : decode cL_law 705 = .ok (.aload_n 0, 1) := by decide +kernel
theorem dL_law_706 : decode cL_law 706 = .ok (.iload_n 3, 1) := by decide +kernel
theorem dL_law_707 : decode cL_law 707 = .ok (.iconst 2, 1) := by decide +kernel
theorem dL_law_708 : decode cL_law 708 = .ok (.iadd, 1) := by decide +kernel
theorem dL_law_709 : decode cL_law 709 = .ok (.iaload, 1) := by decide +kernel
theorem dL_law_710 : decode cL_law 710 = .ok (.invokevirtual 104, 3) := by decide +kernel
theorem dL_law_713 : decode cL_law 713 = .ok (.if_icmp .eq 469, 3) := by decide +kernel
theorem dL_law_716 : decode cL_law 716 = .ok (.iconst 0, 1) := by decide +kernel
theorem dL_law_717 : decode cL_law 717 = .ok (.ireturn, 1) := by decide +kernel
theorem dL_law_718 : decode cL_law 718 = .ok (.aload_n 1, 1) := by decide +kernel
theorem dL_law_719 : decode cL_law 719 = .ok (.invokevirtual 105, 3) := by decide +kernel
theorem dL_law_722 : decode cL_law 722 = .ok (.aload_n 2, 1) := by decide +kernel
theorem dL_law_723 : decode cL_law 723 = .ok (.invokevirtual 108, 3) := by decide +kernel
theorem dL_law_726 : decode cL_law 726 = .ok (.if_icmp .eq 456, 3) := by decide +kernel
theorem dL_law_729 : decode cL_law 729 = .ok (.iconst 0, 1) := by decide +kernel
theorem dL_law_730 : decode cL_law 730 = .ok (.ireturn, 1) := by decide +kernel
theorem dL_law_731 : decode cL_law 731 = .ok (.aload_n 1, 1) := by decide +kernel
theorem dL_law_732 : decode cL_law 732 = .ok (.invokevirtual 109, 3) := by decide +kernel
theorem dL_law_735 : decode cL_law 735 = .ok (.aload_n 2, 1) := by decide +kernel
theorem dL_law_736 : decode cL_law 736 = .ok (.invokevirtual 112, 3) := by decide +kernel
theorem dL_law_739 : decode cL_law 739 = .ok (.if_icmp .eq 443, 3) := by decide +kernel
theorem dL_law_742 : decode cL_law 742 = .ok (.iconst 0, 1) := by decide +kernel
theorem dL_law_743 : decode cL_law 743 = .ok (.ireturn, 1) := by decide +kernel
theorem dL_law_744 : decode cL_law 744 = .ok (.aload_n 1, 1) := by decide +kernel
theorem dL_law_745 : decode cL_law 745 = .ok (.aload_n 0, 1) := by decide +kernel
theorem dL_law_746 : decode cL_law 746 = .ok (.iload_n 3, 1) := by decide +kernel
theorem dL_law_747 : decode cL_law 747 = .ok (.iconst 1, 1) := by decide +kernel
theorem dL_law_748 : decode cL_law 748 = .ok (.iadd, 1) := by decide +kernel
theorem dL_law_749 : decode cL_law 749 = .ok (.iaload, 1) := by decide +kernel
theorem dL_law_750 : decode cL_law 750 = .ok (.aload_n 0, 1) := by decide +kernel
theorem dL_law_751 : decode cL_law 751 = .ok (.iload_n 3, 1) := by decide +kernel
theorem dL_law_752 : decode cL_law 752 = .ok (.iconst 2, 1) := by decide +kernel
theorem dL_law_753 : decode cL_law 753 = .ok (.iadd, 1) := by decide +kernel
theorem dL_law_754 : decode cL_law 754 = .ok (.iaload, 1) := by decide +kernel
theorem dL_law_755 : decode cL_law 755 = .ok (.invokevirtual 113, 3) := by decide +kernel
theorem dL_law_758 : decode cL_law 758 = .ok (.aload_n 2, 1) := by decide +kernel
theorem dL_law_759 : decode cL_law 759 = .ok (.aload_n 0, 1) := by decide +kernel
theorem dL_law_760 : decode cL_law 760 = .ok (.iload_n 3, 1) := by decide +kernel
theorem dL_law_761 : decode cL_law 761 = .ok (.iconst 1, 1) := by decide +kernel
theorem dL_law_762 : decode cL_law 762 = .ok (.iadd, 1) := by decide +kernel
theorem dL_law_763 : decode cL_law 763 = .ok (.iaload, 1) := by decide +kernel
theorem dL_law_764 : decode cL_law 764 = .ok (.aload_n 0, 1) := by decide +kernel
theorem dL_law_765 : decode cL_law 765 = .ok (.iload_n 3, 1) := by decide +kernel
theorem dL_law_766 : decode cL_law 766 = .ok (.iconst 2, 1) := by decide +kernel
theorem dL_law_767 : decode cL_law 767 = .ok (.iadd, 1) := by decide +kernel
theorem dL_law_768 : decode cL_law 768 = .ok (.iaload, 1) := by decide +kernel
theorem dL_law_769 : decode cL_law 769 = .ok (.invokevirtual 116, 3) := by decide +kernel
theorem dL_law_772 : decode cL_law 772 = .ok (.if_icmp .eq 410, 3) := by decide +kernel
theorem dL_law_775 : decode cL_law 775 = .ok (.iconst 0, 1) := by decide +kernel
theorem dL_law_776 : decode cL_law 776 = .ok (.ireturn, 1) := by decide +kernel
theorem dL_law_777 : decode cL_law 777 = .ok (.aload_n 1, 1) := by decide +kernel
theorem dL_law_778 : decode cL_law 778 = .ok (.aload_n 0, 1) := by decide +kernel
theorem dL_law_779 : decode cL_law 779 = .ok (.iload_n 3, 1) := by decide +kernel
theorem dL_law_780 : decode cL_law 780 = .ok (.iconst 1, 1) := by decide +kernel
theorem dL_law_781 : decode cL_law 781 = .ok (.iadd, 1) := by decide +kernel
theorem dL_law_782 : decode cL_law 782 = .ok (.iaload, 1) := by decide +kernel
theorem dL_law_783 : decode cL_law 783 = .ok (.invokevirtual 117, 3) := by decide +kernel
theorem dL_law_786 : decode cL_law 786 = .ok (.aload_n 2, 1) := by decide +kernel
theorem dL_law_787 : decode cL_law 787 = .ok (.aload_n 0, 1) := by decide +kernel
theorem dL_law_788 : decode cL_law 788 = .ok (.iload_n 3, 1) := by decide +kernel
theorem dL_law_789 : decode cL_law 789 = .ok (.iconst 1, 1) := by decide +kernel
theorem dL_law_790 : decode cL_law 790 = .ok (.iadd, 1) := by decide +kernel
theorem dL_law_791 : decode cL_law 791 = .ok (.iaload, 1) := by decide +kernel
theorem dL_law_792 : decode cL_law 792 = .ok (.invokevirtual 120, 3) := by decide +kernel
theorem dL_law_795 : decode cL_law 795 = .ok (.if_icmp .eq 387, 3) := by decide +kernel
theorem dL_law_798 : decode cL_law 798 = .ok (.iconst 0, 1) := by decide +kernel
theorem dL_law_799 : decode cL_law 799 = .ok (.ireturn, 1) := by decide +kernel
theorem dL_law_800 : decode cL_law 800 = .ok (.aload_n 1, 1) := by decide +kernel
theorem dL_law_801 : decode cL_law 801 = .ok (.aload_n 0, 1) := by decide +kernel
theorem dL_law_802 : decode cL_law 802 = .ok (.iload_n 3, 1) := by decide +kernel
theorem dL_law_803 : decode cL_law 803 = .ok (.iconst 1, 1) := by decide +kernel
theorem dL_law_804 : decode cL_law 804 = .ok (.iadd, 1) := by decide +kernel
theorem dL_law_805 : decode cL_law 805 = .ok (.iaload, 1) := by decide +kernel
theorem dL_law_806 : decode cL_law 806 = .ok (.aload_n 0, 1) := by decide +kernel
theorem dL_law_807 : decode cL_law 807 = .ok (.iload_n 3, 1) := by decide +kernel
theorem dL_law_808 : decode cL_law 808 = .ok (.iconst 2, 1) := by decide +kernel
theorem dL_law_809 : decode cL_law 809 = .ok (.iadd, 1) := by decide +kernel
theorem dL_law_810 : decode cL_law 810 = .ok (.iaload, 1) := by decide +kernel
theorem dL_law_811 : decode cL_law 811 = .ok (.aload_n 0, 1) := by decide +kernel
theorem dL_law_812 : decode cL_law 812 = .ok (.iload_n 3, 1) := by decide +kernel
theorem dL_law_813 : decode cL_law 813 = .ok (.iconst 3, 1) := by decide +kernel
theorem dL_law_814 : decode cL_law 814 = .ok (.iadd, 1) := by decide +kernel
theorem dL_law_815 : decode cL_law 815 = .ok (.iaload, 1) := by decide +kernel
theorem dL_law_816 : decode cL_law 816 = .ok (.invokevirtual 121, 3) := by decide +kernel
theorem dL_law_819 : decode cL_law 819 = .ok (.aload_n 2, 1) := by decide +kernel
theorem dL_law_820 : decode cL_law 820 = .ok (.aload_n 0, 1) := by decide +kernel
theorem dL_law_821 : decode cL_law 821 = .ok (.iload_n 3, 1) := by decide +kernel
theorem dL_law_822 : decode cL_law 822 = .ok (.iconst 1, 1) := by decide +kernel
theorem dL_law_823 : decode cL_law 823 = .ok (.iadd, 1) := by decide +kernel
theorem dL_law_824 : decode cL_law 824 = .ok (.iaload, 1) := by decide +kernel
theorem dL_law_825 : decode cL_law 825 = .ok (.aload_n 0, 1) := by decide +kernel
theorem dL_law_826 : decode cL_law 826 = .ok (.iload_n 3, 1) := by decide +kernel
theorem dL_law_827 : decode cL_law 827 = .ok (.iconst 2, 1) := by decide +kernel
theorem dL_law_828 : decode cL_law 828 = .ok (.iadd, 1) := by decide +kernel
theorem dL_law_829 : decode cL_law 829 = .ok (.iaload, 1) := by decide +kernel
theorem dL_law_830 : decode cL_law 830 = .ok (.aload_n 0, 1) := by decide +kernel
theorem dL_law_831 : decode cL_law 831 = .ok (.iload_n 3, 1) := by decide +kernel
theorem dL_law_832 : decode cL_law 832 = .ok (.iconst 3, 1) := by decide +kernel
theorem dL_law_833 : decode cL_law 833 = .ok (.iadd, 1) := by decide +kernel
theorem dL_law_834 : decode cL_law 834 = .ok (.iaload, 1) := by decide +kernel
theorem dL_law_835 : decode cL_law 835 = .ok (.invokevirtual 125, 3) := by decide +kernel
theorem dL_law_838 : decode cL_law 838 = .ok (.lcmp, 1) := by decide +kernel
theorem dL_law_839 : decode cL_law 839 = .ok (.ifCond .eq 343, 3) := by decide +kernel
theorem dL_law_842 : decode cL_law 842 = .ok (.iconst 0, 1) := by decide +kernel
theorem dL_law_843 : decode cL_law 843 = .ok (.ireturn, 1) := by decide +kernel
theorem dL_law_844 : decode cL_law 844 = .ok (.aload_n 1, 1) := by decide +kernel
theorem dL_law_845 : decode cL_law 845 = .ok (.aload_n 0, 1) := by decide +kernel
theorem dL_law_846 : decode cL_law 846 = .ok (.iload_n 3, 1) := by decide +kernel
theorem dL_law_847 : decode cL_law 847 = .ok (.iconst 1, 1) := by decide +kernel
theorem dL_law_848 : decode cL_law 848 = .ok (.iadd, 1) := by decide +kernel
theorem dL_law_849 : decode cL_law 849 = .ok (.iaload, 1) := by decide +kernel
theorem dL_law_850 : decode cL_law 850 = .ok (.aload_n 0, 1) := by decide +kernel
theorem dL_law_851 : decode cL_law 851 = .ok (.iload_n 3, 1) := by decide +kernel
theorem dL_law_852 : decode cL_law 852 = .ok (.iconst 2, 1) := by decide +kernel
theorem dL_law_853 : decode cL_law 853 = .ok (.iadd, 1) := by decide +kernel
theorem dL_law_854 : decode cL_law 854 = .ok (.iaload, 1) := by decide +kernel
theorem dL_law_855 : decode cL_law 855 = .ok (.aload_n 0, 1) := by decide +kernel
theorem dL_law_856 : decode cL_law 856 = .ok (.iload_n 3, 1) := by decide +kernel
theorem dL_law_857 : decode cL_law 857 = .ok (.iconst 3, 1) := by decide +kernel
theorem dL_law_858 : decode cL_law 858 = .ok (.iadd, 1) := by decide +kernel
theorem dL_law_859 : decode cL_law 859 = .ok (.iaload, 1) := by decide +kernel
theorem dL_law_860 : decode cL_law 860 = .ok (.invokevirtual 126, 3) := by decide +kernel
theorem dL_law_863 : decode cL_law 863 = .ok (.aload_n 2, 1) := by decide +kernel
theorem dL_law_864 : decode cL_law 864 = .ok (.aload_n 0, 1) := by decide +kernel
theorem dL_law_865 : decode cL_law 865 = .ok (.iload_n 3, 1) := by decide +kernel
theorem dL_law_866 : decode cL_law 866 = .ok (.iconst 1, 1) := by decide +kernel
theorem dL_law_867 : decode cL_law 867 = .ok (.iadd, 1) := by decide +kernel
theorem dL_law_868 : decode cL_law 868 = .ok (.iaload, 1) := by decide +kernel
theorem dL_law_869 : decode cL_law 869 = .ok (.aload_n 0, 1) := by decide +kernel
theorem dL_law_870 : decode cL_law 870 = .ok (.iload_n 3, 1) := by decide +kernel
theorem dL_law_871 : decode cL_law 871 = .ok (.iconst 2, 1) := by decide +kernel
theorem dL_law_872 : decode cL_law 872 = .ok (.iadd, 1) := by decide +kernel
theorem dL_law_873 : decode cL_law 873 = .ok (.iaload, 1) := by decide +kernel
theorem dL_law_874 : decode cL_law 874 = .ok (.aload_n 0, 1) := by decide +kernel
theorem dL_law_875 : decode cL_law 875 = .ok (.iload_n 3, 1) := by decide +kernel
theorem dL_law_876 : decode cL_law 876 = .ok (.iconst 3, 1) := by decide +kernel
theorem dL_law_877 : decode cL_law 877 = .ok (.iadd, 1) := by decide +kernel
theorem dL_law_878 : decode cL_law 878 = .ok (.iaload, 1) := by decide +kernel
theorem dL_law_879 : decode cL_law 879 = .ok (.invokevirtual 129, 3) := by decide +kernel
theorem dL_law_882 : decode cL_law 882 = .ok (.if_icmp .eq 300, 3) := by decide +kernel
theorem dL_law_885 : decode cL_law 885 = .ok (.iconst 0, 1) := by decide +kernel
theorem dL_law_886 : decode cL_law 886 = .ok (.ireturn, 1) := by decide +kernel
theorem dL_law_887 : decode cL_law 887 = .ok (.aload_n 1, 1) := by decide +kernel
theorem dL_law_888 : decode cL_law 888 = .ok (.aload_n 0, 1) := by decide +kernel
theorem dL_law_889 : decode cL_law 889 = .ok (.iload_n 3, 1) := by decide +kernel
theorem dL_law_890 : decode cL_law 890 = .ok (.iconst 1, 1) := by decide +kernel
theorem dL_law_891 : decode cL_law 891 = .ok (.iadd, 1) := by decide +kernel
theorem dL_law_892 : decode cL_law 892 = .ok (.iaload, 1) := by decide +kernel
theorem dL_law_893 : decode cL_law 893 = .ok (.aload_n 0, 1) := by decide +kernel
theorem dL_law_894 : decode cL_law 894 = .ok (.iload_n 3, 1) := by decide +kernel
theorem dL_law_895 : decode cL_law 895 = .ok (.iconst 2, 1) := by decide +kernel
theorem dL_law_896 : decode cL_law 896 = .ok (.iadd, 1) := by decide +kernel
theorem dL_law_897 : decode cL_law 897 = .ok (.iaload, 1) := by decide +kernel
theorem dL_law_898 : decode cL_law 898 = .ok (.aload_n 0, 1) := by decide +kernel
theorem dL_law_899 : decode cL_law 899 = .ok (.iload_n 3, 1) := by decide +kernel
theorem dL_law_900 : decode cL_law 900 = .ok (.iconst 3, 1) := by decide +kernel
theorem dL_law_901 : decode cL_law 901 = .ok (.iadd, 1) := by decide +kernel
theorem dL_law_902 : decode cL_law 902 = .ok (.iaload, 1) := by decide +kernel
theorem dL_law_903 : decode cL_law 903 = .ok (.invokevirtual 130, 3) := by decide +kernel
theorem dL_law_906 : decode cL_law 906 = .ok (.aload_n 2, 1) := by decide +kernel
theorem dL_law_907 : decode cL_law 907 = .ok (.aload_n 0, 1) := by decide +kernel
theorem dL_law_908 : decode cL_law 908 = .ok (.iload_n 3, 1) := by decide +kernel
theorem dL_law_909 : decode cL_law 909 = .ok (.iconst 1, 1) := by decide +kernel
theorem dL_law_910 : decode cL_law 910 = .ok (.iadd, 1) := by decide +kernel
theorem dL_law_911 : decode cL_law 911 = .ok (.iaload, 1) := by decide +kernel
theorem dL_law_912 : decode cL_law 912 = .ok (.aload_n 0, 1) := by decide +kernel
theorem dL_law_913 : decode cL_law 913 = .ok (.iload_n 3, 1) := by decide +kernel
theorem dL_law_914 : decode cL_law 914 = .ok (.iconst 2, 1) := by decide +kernel
theorem dL_law_915 : decode cL_law 915 = .ok (.iadd, 1) := by decide +kernel
theorem dL_law_916 : decode cL_law 916 = .ok (.iaload, 1) := by decide +kernel
theorem dL_law_917 : decode cL_law 917 = .ok (.aload_n 0, 1) := by decide +kernel
theorem dL_law_918 : decode cL_law 918 = .ok (.iload_n 3, 1) := by decide +kernel
theorem dL_law_919 : decode cL_law 919 = .ok (.iconst 3, 1) := by decide +kernel
theorem dL_law_920 : decode cL_law 920 = .ok (.iadd, 1) := by decide +kernel
theorem dL_law_921 : decode cL_law 921 = .ok (.iaload, 1) := by decide +kernel
theorem dL_law_922 : decode cL_law 922 = .ok (.invokevirtual 133, 3) := by decide +kernel
theorem dL_law_925 : decode cL_law 925 = .ok (.if_icmp .eq 257, 3) := by decide +kernel
theorem dL_law_928 : decode cL_law 928 = .ok (.iconst 0, 1) := by decide +kernel
theorem dL_law_929 : decode cL_law 929 = .ok (.ireturn, 1) := by decide +kernel
theorem dL_law_930 : decode cL_law 930 = .ok (.aload_n 1, 1) := by decide +kernel
theorem dL_law_931 : decode cL_law 931 = .ok (.aload_n 0, 1) := by decide +kernel
theorem dL_law_932 : decode cL_law 932 = .ok (.iload_n 3, 1) := by decide +kernel
theorem dL_law_933 : decode cL_law 933 = .ok (.iconst 1, 1) := by decide +kernel
theorem dL_law_934 : decode cL_law 934 = .ok (.iadd, 1) := by decide +kernel
theorem dL_law_935 : decode cL_law 935 = .ok (.iaload, 1) := by decide +kernel
theorem dL_law_936 : decode cL_law 936 = .ok (.invokevirtual 134, 3) := by decide +kernel
theorem dL_law_939 : decode cL_law 939 = .ok (.aload_n 2, 1) := by decide +kernel
theorem dL_law_940 : decode cL_law 940 = .ok (.aload_n 0, 1) := by decide +kernel
theorem dL_law_941 : decode cL_law 941 = .ok (.iload_n 3, 1) := by decide +kernel
theorem dL_law_942 : decode cL_law 942 = .ok (.iconst 1, 1) := by decide +kernel
theorem dL_law_943 : decode cL_law 943 = .ok (.iadd, 1) := by decide +kernel
theorem dL_law_944 : decode cL_law 944 = .ok (.iaload, 1) := by decide +kernel
theorem dL_law_945 : decode cL_law 945 = .ok (.invokevirtual 137, 3) := by decide +kernel
theorem dL_law_948 : decode cL_law 948 = .ok (.if_icmp .eq 234, 3) := by decide +kernel
theorem dL_law_951 : decode cL_law 951 = .ok (.iconst 0, 1) := by decide +kernel
theorem dL_law_952 : decode cL_law 952 = .ok (.ireturn, 1) := by decide +kernel
theorem dL_law_953 : decode cL_law 953 = .ok (.aload_n 1, 1) := by decide +kernel
theorem dL_law_954 : decode cL_law 954 = .ok (.aload_n 0, 1) := by decide +kernel
theorem dL_law_955 : decode cL_law 955 = .ok (.iload_n 3, 1) := by decide +kernel
theorem dL_law_956 : decode cL_law 956 = .ok (.iconst 1, 1) := by decide +kernel
theorem dL_law_957 : decode cL_law 957 = .ok (.iadd, 1) := by decide +kernel
theorem dL_law_958 : decode cL_law 958 = .ok (.iaload, 1) := by decide +kernel
theorem dL_law_959 : decode cL_law 959 = .ok (.aload_n 0, 1) := by decide +kernel
theorem dL_law_960 : decode cL_law 960 = .ok (.iload_n 3, 1) := by decide +kernel
theorem dL_law_961 : decode cL_law 961 = .ok (.iconst 2, 1) := by decide +kernel
theorem dL_law_962 : decode cL_law 962 = .ok (.iadd, 1) := by decide +kernel
theorem dL_law_963 : decode cL_law 963 = .ok (.iaload, 1) := by decide +kernel
theorem dL_law_964 : decode cL_law 964 = .ok (.aload_n 0, 1) := by decide +kernel
theorem dL_law_965 : decode cL_law 965 = .ok (.iload_n 3, 1) := by decide +kernel
theorem dL_law_966 : decode cL_law 966 = .ok (.iconst 3, 1) := by decide +kernel
theorem dL_law_967 : decode cL_law 967 = .ok (.iadd, 1) := by decide +kernel
theorem dL_law_968 : decode cL_law 968 = .ok (.iaload, 1) := by decide +kernel
theorem dL_law_969 : decode cL_law 969 = .ok (.aload_n 0, 1) := by decide +kernel
theorem dL_law_970 : decode cL_law 970 = .ok (.iload_n 3, 1) := by decide +kernel
theorem dL_law_971 : decode cL_law 971 = .ok (.iconst 4, 1) := by decide +kernel
theorem dL_law_972 : decode cL_law 972 = .ok (.iadd, 1) := by decide +kernel
theorem dL_law_973 : decode cL_law 973 = .ok (.iaload, 1) := by decide +kernel
theorem dL_law_974 : decode cL_law 974 = .ok (.invokevirtual 138, 3) := by decide +kernel
theorem dL_law_977 : decode cL_law 977 = .ok (.aload_n 2, 1) := by decide +kernel
theorem dL_law_978 : decode cL_law 978 = .ok (.aload_n 0, 1) := by decide +kernel
theorem dL_law_979 : decode cL_law 979 = .ok (.iload_n 3, 1) := by decide +kernel
theorem dL_law_980 : decode cL_law 980 = .ok (.iconst 1, 1) := by decide +kernel
theorem dL_law_981 : decode cL_law 981 = .ok (.iadd, 1) := by decide +kernel
theorem dL_law_982 : decode cL_law 982 = .ok (.iaload, 1) := by decide +kernel
theorem dL_law_983 : decode cL_law 983 = .ok (.aload_n 0, 1) := by decide +kernel
theorem dL_law_984 : decode cL_law 984 = .ok (.iload_n 3, 1) := by decide +kernel
theorem dL_law_985 : decode cL_law 985 = .ok (.iconst 2, 1) := by decide +kernel
theorem dL_law_986 : decode cL_law 986 = .ok (.iadd, 1) := by decide +kernel
theorem dL_law_987 : decode cL_law 987 = .ok (.iaload, 1) := by decide +kernel
theorem dL_law_988 : decode cL_law 988 = .ok (.aload_n 0, 1) := by decide +kernel
theorem dL_law_989 : decode cL_law 989 = .ok (.iload_n 3, 1) := by decide +kernel
theorem dL_law_990 : decode cL_law 990 = .ok (.iconst 3, 1) := by decide +kernel
theorem dL_law_991 : decode cL_law 991 = .ok (.iadd, 1) := by decide +kernel
theorem dL_law_992 : decode cL_law 992 = .ok (.iaload, 1) := by decide +kernel
theorem dL_law_993 : decode cL_law 993 = .ok (.aload_n 0, 1) := by decide +kernel
theorem dL_law_994 : decode cL_law 994 = .ok (.iload_n 3, 1) := by decide +kernel
theorem dL_law_995 : decode cL_law 995 = .ok (.iconst 4, 1) := by decide +kernel
theorem dL_law_996 : decode cL_law 996 = .ok (.iadd, 1) := by decide +kernel
theorem dL_law_997 : decode cL_law 997 = .ok (.iaload, 1) := by decide +kernel
theorem dL_law_998 : decode cL_law 998 = .ok (.invokevirtual 142, 3) := by decide +kernel
theorem dL_law_1001 : decode cL_law 1001 = .ok (.if_icmp .eq 181, 3) := by decide +kernel
theorem dL_law_1004 : decode cL_law 1004 = .ok (.iconst 0, 1) := by decide +kernel
theorem dL_law_1005 : decode cL_law 1005 = .ok (.ireturn, 1) := by decide +kernel
theorem dL_law_1006 : decode cL_law 1006 = .ok (.aload_n 1, 1) := by decide +kernel
theorem dL_law_1007 : decode cL_law 1007 = .ok (.aload_n 0, 1) := by decide +kernel
theorem dL_law_1008 : decode cL_law 1008 = .ok (.iload_n 3, 1) := by decide +kernel
theorem dL_law_1009 : decode cL_law 1009 = .ok (.iconst 1, 1) := by decide +kernel
theorem dL_law_1010 : decode cL_law 1010 = .ok (.iadd, 1) := by decide +kernel
theorem dL_law_1011 : decode cL_law 1011 = .ok (.iaload, 1) := by decide +kernel
theorem dL_law_1012 : decode cL_law 1012 = .ok (.aload_n 0, 1) := by decide +kernel
theorem dL_law_1013 : decode cL_law 1013 = .ok (.iload_n 3, 1) := by decide +kernel
theorem dL_law_1014 : decode cL_law 1014 = .ok (.iconst 2, 1) := by decide +kernel
theorem dL_law_1015 : decode cL_law 1015 = .ok (.iadd, 1) := by decide +kernel
theorem dL_law_1016 : decode cL_law 1016 = .ok (.iaload, 1) := by decide +kernel
theorem dL_law_1017 : decode cL_law 1017 = .ok (.aload_n 0, 1) := by decide +kernel
theorem dL_law_1018 : decode cL_law 1018 = .ok (.iload_n 3, 1) := by decide +kernel
theorem dL_law_1019 : decode cL_law 1019 = .ok (.iconst 3, 1) := by decide +kernel
theorem dL_law_1020 : decode cL_law 1020 = .ok (.iadd, 1) := by decide +kernel
theorem dL_law_1021 : decode cL_law 1021 = .ok (.iaload, 1) := by decide +kernel
theorem dL_law_1022 : decode cL_law 1022 = .ok (.invokevirtual 143, 3) := by decide +kernel
theorem dL_law_1025 : decode cL_law 1025 = .ok (.aload_n 2, 1) := by decide +kernel
theorem dL_law_1026 : decode cL_law 1026 = .ok (.aload_n 0, 1) := by decide +kernel
theorem dL_law_1027 : decode cL_law 1027 = .ok (.iload_n 3, 1) := by decide +kernel
theorem dL_law_1028 : decode cL_law 1028 = .ok (.iconst 1, 1) := by decide +kernel
theorem dL_law_1029 : decode cL_law 1029 = .ok (.iadd, 1) := by decide +kernel
theorem dL_law_1030 : decode cL_law 1030 = .ok (.iaload, 1) := by decide +kernel
theorem dL_law_1031 : decode cL_law 1031 = .ok (.aload_n 0, 1) := by decide +kernel
theorem dL_law_1032 : decode cL_law 1032 = .ok (.iload_n 3, 1) := by decide +kernel
theorem dL_law_1033 : decode cL_law 1033 = .ok (.iconst 2, 1) := by decide +kernel
theorem dL_law_1034 : decode cL_law 1034 = .ok (.iadd, 1) := by decide +kernel
theorem dL_law_1035 : decode cL_law 1035 = .ok (.iaload, 1) := by decide +kernel
theorem dL_law_1036 : decode cL_law 1036 = .ok (.aload_n 0, 1) := by decide +kernel
theorem dL_law_1037 : decode cL_law 1037 = .ok (.iload_n 3, 1) := by decide +kernel
theorem dL_law_1038 : decode cL_law 1038 = .ok (.iconst 3, 1) := by decide +kernel
theorem dL_law_1039 : decode cL_law 1039 = .ok (.iadd, 1) := by decide +kernel
theorem dL_law_1040 : decode cL_law 1040 = .ok (.iaload, 1) := by decide +kernel
theorem dL_law_1041 : decode cL_law 1041 = .ok (.invokevirtual 146, 3) := by decide +kernel
theorem dL_law_1044 : decode cL_law 1044 = .ok (.if_icmp .eq 138, 3) := by decide +kernel
theorem dL_law_1047 : decode cL_law 1047 = .ok (.iconst 0, 1) := by decide +kernel
theorem dL_law_1048 : decode cL_law 1048 = .ok (.ireturn, 1) := by decide +kernel
theorem dL_law_1049 : decode cL_law 1049 = .ok (.aload_n 1, 1) := by decide +kernel
theorem dL_law_1050 : decode cL_law 1050 = .ok (.aload_n 0, 1) := by decide +kernel
theorem dL_law_1051 : decode cL_law 1051 = .ok (.iload_n 3, 1) := by decide +kernel
theorem dL_law_1052 : decode cL_law 1052 = .ok (.iconst 1, 1) := by decide +kernel
theorem dL_law_1053 : decode cL_law 1053 = .ok (.iadd, 1) := by decide +kernel
theorem dL_law_1054 : decode cL_law 1054 = .ok (.iaload, 1) := by decide +kernel
theorem dL_law_1055 : decode cL_law 1055 = .ok (.aload_n 0, 1) := by decide +kernel
theorem dL_law_1056 : decode cL_law 1056 = .ok (.iload_n 3, 1) := by decide +kernel
theorem dL_law_1057 : decode cL_law 1057 = .ok (.iconst 2, 1) := by decide +kernel
theorem dL_law_1058 : decode cL_law 1058 = .ok (.iadd, 1) := by decide +kernel
theorem dL_law_1059 : decode cL_law 1059 = .ok (.iaload, 1) := by decide +kernel
theorem dL_law_1060 : decode cL_law 1060 = .ok (.aload_n 0, 1) := by decide +kernel
theorem dL_law_1061 : decode cL_law 1061 = .ok (.iload_n 3, 1) := by decide +kernel
theorem dL_law_1062 : decode cL_law 1062 = .ok (.iconst 3, 1) := by decide +kernel
theorem dL_law_1063 : decode cL_law 1063 = .ok (.iadd, 1) := by decide +kernel
theorem dL_law_1064 : decode cL_law 1064 = .ok (.iaload, 1) := by decide +kernel
theorem dL_law_1065 : decode cL_law 1065 = .ok (.aload_n 0, 1) := by decide +kernel
theorem dL_law_1066 : decode cL_law 1066 = .ok (.iload_n 3, 1) := by decide +kernel
theorem dL_law_1067 : decode cL_law 1067 = .ok (.iconst 4, 1) := by decide +kernel
theorem dL_law_1068 : decode cL_law 1068 = .ok (.iadd, 1) := by decide +kernel
theorem dL_law_1069 : decode cL_law 1069 = .ok (.iaload, 1) := by decide +kernel
theorem dL_law_1070 : decode cL_law 1070 = .ok (.aload_n 0, 1) := by decide +kernel
theorem dL_law_1071 : decode cL_law 1071 = .ok (.iload_n 3, 1) := by decide +kernel
theorem dL_law_1072 : decode cL_law 1072 = .ok (.iconst 5, 1) := by decide +kernel
theorem dL_law_1073 : decode cL_law 1073 = .ok (.iadd, 1) := by decide +kernel
theorem dL_law_1074 : decode cL_law 1074 = .ok (.iaload, 1) := by decide +kernel
theorem dL_law_1075 : decode cL_law 1075 = .ok (.invokevirtual 147, 3) := by decide +kernel
theorem dL_law_1078 : decode cL_law 1078 = .ok (.aload_n 2, 1) := by decide +kernel
theorem dL_law_1079 : decode cL_law 1079 = .ok (.aload_n 0, 1) := by decide +kernel
theorem dL_law_1080 : decode cL_law 1080 = .ok (.iload_n 3, 1) := by decide +kernel
theorem dL_law_1081 : decode cL_law 1081 = .ok (.iconst 1, 1) := by decide +kernel
theorem dL_law_1082 : decode cL_law 1082 = .ok (.iadd, 1) := by decide +kernel
theorem dL_law_1083 : decode cL_law 1083 = .ok (.iaload, 1) := by decide +kernel
theorem dL_law_1084 : decode cL_law 1084 = .ok (.aload_n 0, 1) := by decide +kernel
theorem dL_law_1085 : decode cL_law 1085 = .ok (.iload_n 3, 1) := by decide +kernel
theorem dL_law_1086 : decode cL_law 1086 = .ok (.iconst 2, 1) := by decide +kernel
theorem dL_law_1087 : decode cL_law 1087 = .ok (.iadd, 1) := by decide +kernel
theorem dL_law_1088 : decode cL_law 1088 = .ok (.iaload, 1) := by decide +kernel
theorem dL_law_1089 : decode cL_law 1089 = .ok (.aload_n 0, 1) := by decide +kernel
theorem dL_law_1090 : decode cL_law 1090 = .ok (.iload_n 3, 1) := by decide +kernel
theorem dL_law_1091 : decode cL_law 1091 = .ok (.iconst 3, 1) := by decide +kernel
theorem dL_law_1092 : decode cL_law 1092 = .ok (.iadd, 1) := by decide +kernel
theorem dL_law_1093 : decode cL_law 1093 = .ok (.iaload, 1) := by decide +kernel
theorem dL_law_1094 : decode cL_law 1094 = .ok (.aload_n 0, 1) := by decide +kernel
theorem dL_law_1095 : decode cL_law 1095 = .ok (.iload_n 3, 1) := by decide +kernel
theorem dL_law_1096 : decode cL_law 1096 = .ok (.iconst 4, 1) := by decide +kernel
theorem dL_law_1097 : decode cL_law 1097 = .ok (.iadd, 1) := by decide +kernel
theorem dL_law_1098 : decode cL_law 1098 = .ok (.iaload, 1) := by decide +kernel
theorem dL_law_1099 : decode cL_law 1099 = .ok (.aload_n 0, 1) := by decide +kernel
theorem dL_law_1100 : decode cL_law 1100 = .ok (.iload_n 3, 1) := by decide +kernel
theorem dL_law_1101 : decode cL_law 1101 = .ok (.iconst 5, 1) := by decide +kernel
theorem dL_law_1102 : decode cL_law 1102 = .ok (.iadd, 1) := by decide +kernel
theorem dL_law_1103 : decode cL_law 1103 = .ok (.iaload, 1) := by decide +kernel
theorem dL_law_1104 : decode cL_law 1104 = .ok (.invokevirtual 151, 3) := by decide +kernel
theorem dL_law_1107 : decode cL_law 1107 = .ok (.if_icmp .eq 75, 3) := by decide +kernel
theorem dL_law_1110 : decode cL_law 1110 = .ok (.iconst 0, 1) := by decide +kernel
theorem dL_law_1111 : decode cL_law 1111 = .ok (.ireturn, 1) := by decide +kernel
theorem dL_law_1112 : decode cL_law 1112 = .ok (.aload_n 1, 1) := by decide +kernel
theorem dL_law_1113 : decode cL_law 1113 = .ok (.aload_n 0, 1) := by decide +kernel
theorem dL_law_1114 : decode cL_law 1114 = .ok (.iload_n 3, 1) := by decide +kernel
theorem dL_law_1115 : decode cL_law 1115 = .ok (.iconst 1, 1) := by decide +kernel
theorem dL_law_1116 : decode cL_law 1116 = .ok (.iadd, 1) := by decide +kernel
theorem dL_law_1117 : decode cL_law 1117 = .ok (.iaload, 1) := by decide +kernel
theorem dL_law_1118 : decode cL_law 1118 = .ok (.aload_n 0, 1) := by decide +kernel
theorem dL_law_1119 : decode cL_law 1119 = .ok (.iload_n 3, 1) := by decide +kernel
theorem dL_law_1120 : decode cL_law 1120 = .ok (.iconst 2, 1) := by decide +kernel
theorem dL_law_1121 : decode cL_law 1121 = .ok (.iadd, 1) := by decide +kernel
theorem dL_law_1122 : decode cL_law 1122 = .ok (.iaload, 1) := by decide +kernel
theorem dL_law_1123 : decode cL_law 1123 = .ok (.invokevirtual 152, 3) := by decide +kernel
theorem dL_law_1126 : decode cL_law 1126 = .ok (.aload_n 2, 1) := by decide +kernel
theorem dL_law_1127 : decode cL_law 1127 = .ok (.aload_n 0, 1) := by decide +kernel
theorem dL_law_1128 : decode cL_law 1128 = .ok (.iload_n 3, 1) := by decide +kernel
theorem dL_law_1129 : decode cL_law 1129 = .ok (.iconst 1, 1) := by decide +kernel
theorem dL_law_1130 : decode cL_law 1130 = .ok (.iadd, 1) := by decide +kernel
theorem dL_law_1131 : decode cL_law 1131 = .ok (.iaload, 1) := by decide +kernel
theorem dL_law_1132 : decode cL_law 1132 = .ok (.aload_n 0, 1) := by decide +kernel
theorem dL_law_1133 : decode cL_law 1133 = .ok (.iload_n 3, 1) := by decide +kernel
theorem dL_law_1134 : decode cL_law 1134 = .ok (.iconst 2, 1) := by decide +kernel
theorem dL_law_1135 : decode cL_law 1135 = .ok (.iadd, 1) := by decide +kernel
theorem dL_law_1136 : decode cL_law 1136 = .ok (.iaload, 1) := by decide +kernel
theorem dL_law_1137 : decode cL_law 1137 = .ok (.invokevirtual 155, 3) := by decide +kernel
theorem dL_law_1140 : decode cL_law 1140 = .ok (.if_icmp .eq 42, 3) := by decide +kernel
theorem dL_law_1143 : decode cL_law 1143 = .ok (.iconst 0, 1) := by decide +kernel
theorem dL_law_1144 : decode cL_law 1144 = .ok (.ireturn, 1) := by decide +kernel
theorem dL_law_1145 : decode cL_law 1145 = .ok (.aload_n 1, 1) := by decide +kernel
theorem dL_law_1146 : decode cL_law 1146 = .ok (.aload_n 0, 1) := by decide +kernel
theorem dL_law_1147 : decode cL_law 1147 = .ok (.iload_n 3, 1) := by decide +kernel
theorem dL_law_1148 : decode cL_law 1148 = .ok (.iconst 1, 1) := by decide +kernel
theorem dL_law_1149 : decode cL_law 1149 = .ok (.iadd, 1) := by decide +kernel
theorem dL_law_1150 : decode cL_law 1150 = .ok (.iaload, 1) := by decide +kernel
theorem dL_law_1151 : decode cL_law 1151 = .ok (.invokevirtual 156, 3) := by decide +kernel
theorem dL_law_1154 : decode cL_law 1154 = .ok (.aload_n 2, 1) := by decide +kernel
theorem dL_law_1155 : decode cL_law 1155 = .ok (.aload_n 0, 1) := by decide +kernel
theorem dL_law_1156 : decode cL_law 1156 = .ok (.iload_n 3, 1) := by decide +kernel
theorem dL_law_1157 : decode cL_law 1157 = .ok (.iconst 1, 1) := by decide +kernel
theorem dL_law_1158 : decode cL_law 1158 = .ok (.iadd, 1) := by decide +kernel
theorem dL_law_1159 : decode cL_law 1159 = .ok (.iaload, 1) := by decide +kernel
theorem dL_law_1160 : decode cL_law 1160 = .ok (.invokevirtual 159, 3) := by decide +kernel
theorem dL_law_1163 : decode cL_law 1163 = .ok (.if_icmp .eq 19, 3) := by decide +kernel
theorem dL_law_1166 : decode cL_law 1166 = .ok (.iconst 0, 1) := by decide +kernel
theorem dL_law_1167 : decode cL_law 1167 = .ok (.ireturn, 1) := by decide +kernel
theorem dL_law_1168 : decode cL_law 1168 = .ok (.aload_n 1, 1) := by decide +kernel
theorem dL_law_1169 : decode cL_law 1169 = .ok (.invokevirtual 160, 3) := by decide +kernel
theorem dL_law_1172 : decode cL_law 1172 = .ok (.aload_n 2, 1) := by decide +kernel
theorem dL_law_1173 : decode cL_law 1173 = .ok (.invokevirtual 164, 3) := by decide +kernel
theorem dL_law_1176 : decode cL_law 1176 = .ok (.lcmp, 1) := by decide +kernel
theorem dL_law_1177 : decode cL_law 1177 = .ok (.ifCond .eq 5, 3) := by decide +kernel
theorem dL_law_1180 : decode cL_law 1180 = .ok (.iconst 0, 1) := by decide +kernel
theorem dL_law_1181 : decode cL_law 1181 = .ok (.ireturn, 1) := by decide +kernel
theorem dL_law_1182 : decode cL_law 1182 = .ok (.iinc 3 6, 3) := by decide +kernel
theorem dL_law_1185 : decode cL_law 1185 = .ok (.goto (-1167), 3) := by decide +kernel
theorem dL_law_1188 : decode cL_law 1188 = .ok (.iconst 1, 1) := by decide +kernel
theorem dL_law_1189 : decode cL_law 1189 = .ok (.ireturn, 1) := by decide +kernel
