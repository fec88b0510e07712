theorem dX6_joinTwo_99 : decode cX6_joinTwo 99 = .ok (.goto 74, 3) := by decide +kernel
theorem dX6_joinTwo_102 : decode cX6_joinTwo 102 = .ok (.aload_n 0, 1) := by decide +kernel
theorem dX6_joinTwo_103 : decode cX6_joinTwo 103 = .ok (.iload_n 3, 1) := by decide +kernel
theorem dX6_joinTwo_104 : decode cX6_joinTwo 104 = .ok (.iload_n 2, 1) := by decide +kernel
theorem dX6_joinTwo_105 : decode cX6_joinTwo 105 = .ok (.if_icmp .ge 7, 3) := by decide +kernel
theorem dX6_joinTwo_108 : decode cX6_joinTwo 108 = .ok (.iconst 1, 1) := by decide +kernel
theorem dX6_joinTwo_109 : decode cX6_joinTwo 109 = .ok (.goto 4, 3) := by decide +kernel
theorem dX6_joinTwo_112 : decode cX6_joinTwo 112 = .ok (.iconst 0, 1) := by decide +kernel
theorem dX6_joinTwo_113 : decode cX6_joinTwo 113 = .ok (.invokevirtual 126, 3) := by decide +kernel
theorem dX6_joinTwo_116 : decode cX6_joinTwo 116 = .ok (.goto 57, 3) := by decide +kernel
theorem dX6_joinTwo_119 : decode cX6_joinTwo 119 = .ok (.aload_n 0, 1) := by decide +kernel
theorem dX6_joinTwo_120 : decode cX6_joinTwo 120 = .ok (.iload_n 3, 1) := by decide +kernel
theorem dX6_joinTwo_121 : decode cX6_joinTwo 121 = .ok (.iload_n 2, 1) := by decide +kernel
theorem dX6_joinTwo_122 : decode cX6_joinTwo 122 = .ok (.if_icmp .ne 7, 3) := by decide +kernel
theorem dX6_joinTwo_125 : decode cX6_joinTwo 125 = .ok (.iconst 1, 1) := by decide +kernel
theorem dX6_joinTwo_126 : decode cX6_joinTwo 126 = .ok (.goto 4, 3) := by decide +kernel
theorem dX6_joinTwo_129 : decode cX6_joinTwo 129 = .ok (.iconst 0, 1) := by decide +kernel
theorem dX6_joinTwo_130 : decode cX6_joinTwo 130 = .ok (.invokevirtual 126, 3) := by decide +kernel
theorem dX6_joinTwo_133 : decode cX6_joinTwo 133 = .ok (.goto 40, 3) := by decide +kernel
theorem dX6_joinTwo_136 : decode cX6_joinTwo 136 = .ok (.aload_n 0, 1) := by decide +kernel
theorem dX6_joinTwo_137 : decode cX6_joinTwo 137 = .ok (.iload_n 3, 1) := by decide +kernel
theorem dX6_joinTwo_138 : decode cX6_joinTwo 138 = .ok (.ifCond .eq 11, 3) := by decide +kernel
theorem dX6_joinTwo_141 : decode cX6_joinTwo 141 = .ok (.iload_n 2, 1) := by decide +kernel
theorem dX6_joinTwo_142 : decode cX6_joinTwo 142 = .ok (.ifCond .eq 7, 3) := by decide +kernel
theorem dX6_joinTwo_145 : decode cX6_joinTwo 145 = .ok (.iconst 1, 1) := by decide +kernel
theorem dX6_joinTwo_146 : decode cX6_joinTwo 146 = .ok (.goto 4, 3) := by decide +kernel
theorem dX6_joinTwo_149 : decode cX6_joinTwo 149 = .ok (.iconst 0, 1) := by decide +kernel
theorem dX6_joinTwo_150 : decode cX6_joinTwo 150 = .ok (.invokevirtual 126, 3) := by decide +kernel
theorem dX6_joinTwo_153 : decode cX6_joinTwo 153 = .ok (.goto 20, 3) := by decide +kernel
theorem dX6_joinTwo_156 : decode cX6_joinTwo 156 = .ok (.aload_n 0, 1) := by decide +kernel
theorem dX6_joinTwo_157 : decode cX6_joinTwo 157 = .ok (.iload_n 3, 1) := by decide +kernel
theorem dX6_joinTwo_158 : decode cX6_joinTwo 158 = .ok (.ifCond .ne 7, 3) := by decide +kernel
theorem dX6_joinTwo_161 : decode cX6_joinTwo 161 = .ok (.iload_n 2, 1) := by decide +kernel
theorem dX6_joinTwo_162 : decode cX6_joinTwo 162 = .ok (.ifCond .eq 7, 3) := by decide +kernel
theorem dX6_joinTwo_165 : decode cX6_joinTwo 165 = .ok (.iconst 1, 1) := by decide +kernel
theorem dX6_joinTwo_166 : decode cX6_joinTwo 166 = .ok (.goto 4, 3) := by decide +kernel
theorem dX6_joinTwo_169 : decode cX6_joinTwo 169 = .ok (.iconst 0, 1) := by decide +kernel
theorem dX6_joinTwo_170 : decode cX6_joinTwo 170 = .ok (.invokevirtual 126, 3) := by decide +kernel
theorem dX6_joinTwo_173 : decode cX6_joinTwo 173 = .ok (.return_, 1) := by decide +kernel
theorem dX6_push_0 : decode cX6_push 0 = .ok (.aload_n 0, 1) := by decide +kernel
theorem dX6_push_1 : decode cX6_push 1 = .ok (.getfield 100, 3) := by decide +kernel
theorem dX6_push_4 : decode cX6_push 4 = .ok (.bipush 32, 2) := by decide +kernel
theorem dX6_push_6 : decode cX6_push 6 = .ok (.if_icmp .ge 23, 3) := by decide +kernel
theorem dX6_push_9 : decode cX6_push 9 = .ok (.aload_n 0, 1) := by decide +kernel
theorem dX6_push_10 : decode cX6_push 10 = .ok (.getfield 11, 3) := by decide +kernel
theorem dX6_push_13 : decode cX6_push 13 = .ok (.aload_n 0, 1) := by decide +kernel
theorem dX6_push_14 : decode cX6_push 14 = .ok (.getfield 100, 3) := by decide +kernel
theorem dX6_push_17 : decode cX6_push 17 = .ok (.iload_n 1, 1) := by decide +kernel
theorem dX6_push_18 : decode cX6_push 18 = .ok (.iastore, 1) := by decide +kernel
theorem dX6_push_19 : decode cX6_push 19 = .ok (.aload_n 0, 1) := by decide +kernel
theorem dX6_push_20 : decode cX6_push 20 = .ok (.dup, 1) := by decide +kernel
theorem dX6_push_21 : decode cX6_push 21 = .ok (.getfield 100, 3) := by decide +kernel
theorem dX6_push_24 : decode cX6_push 24 = .ok (.iconst 1, 1) := by decide +kernel
theorem dX6_push_25 : decode cX6_push 25 = .ok (.iadd, 1) := by decide +kernel
theorem dX6_push_26 : decode cX6_push 26 = .ok (.putfield 100, 3) := by decide +kernel
theorem dX6_push_29 : decode cX6_push 29 = .ok (.return_, 1) := by decide +kernel
theorem dX6_pop_0 : decode cX6_pop 0 = .ok (.aload_n 0, 1) := by decide +kernel
theorem dX6_pop_1 : decode cX6_pop 1 = .ok (.getfield 100, 3) := by decide +kernel
theorem dX6_pop_4 : decode cX6_pop 4 = .ok (.ifCond .gt 5, 3) := by decide +kernel
theorem dX6_pop_7 : decode cX6_pop 7 = .ok (.iconst 0, 1) := by decide +kernel
theorem dX6_pop_8 : decode cX6_pop 8 = .ok (.ireturn, 1) := by decide +kernel
theorem dX6_pop_9 : decode cX6_pop 9 = .ok (.aload_n 0, 1) := by decide +kernel
theorem dX6_pop_10 : decode cX6_pop 10 = .ok (.dup, 1) := by decide +kernel
theorem dX6_pop_11 : decode cX6_pop 11 = .ok (.getfield 100, 3) := by decide +kernel
theorem dX6_pop_14 : decode cX6_pop 14 = .ok (.iconst 1, 1) := by decide +kernel
theorem dX6_pop_15 : decode cX6_pop 15 = .ok (.isub, 1) := by decide +kernel
theorem dX6_pop_16 : decode cX6_pop 16 = .ok (.putfield 100, 3) := by decide +kernel
theorem dX6_pop_19 : decode cX6_pop 19 = .ok (.aload_n 0, 1) := by decide +kernel
theorem dX6_pop_20 : decode cX6_pop 20 = .ok (.getfield 11, 3) := by decide +kernel
theorem dX6_pop_23 : decode cX6_pop 23 = .ok (.aload_n 0, 1) := by decide +kernel
theorem dX6_pop_24 : decode cX6_pop 24 = .ok (.getfield 100, 3) := by decide +kernel
theorem dX6_pop_27 : decode cX6_pop 27 = .ok (.iaload, 1) := by decide +kernel
theorem dX6_pop_28 : decode cX6_pop 28 = .ok (.ireturn, 1) := by decide +kernel
theorem dX7_init_0 : decode cX7_init 0 = .ok (.aload_n 0, 1) := by decide +kernel
theorem dX7_init_1 : decode cX7_init 1 = .ok (.invokespecial 1, 3) := by decide +kernel
theorem dX7_init_4 : decode cX7_init 4 = .ok (.aload_n 0, 1) := by decide +kernel
theorem dX7_init_5 : decode cX7_init 5 = .ok (.aload_n 1, 1) := by decide +kernel
theorem dX7_init_6 : decode cX7_init 6 = .ok (.putfield 7, 3) := by decide +kernel
theorem dX7_init_9 : decode cX7_init 9 = .ok (.aload_n 0, 1) := by decide +kernel
theorem dX7_init_10 : decode cX7_init 10 = .ok (.iload_n 2, 1) := by decide +kernel
theorem dX7_init_11 : decode cX7_init 11 = .ok (.putfield 13, 3) := by decide +kernel
theorem dX7_init_14 : decode cX7_init 14 = .ok (.aload_n 0, 1) := by decide +kernel
theorem dX7_init_15 : decode cX7_init 15 = .ok (.iload_n 3, 1) := by decide +kernel
theorem dX7_init_16 : decode cX7_init 16 = .ok (.putfield 17, 3) := by decide +kernel
theorem dX7_init_19 : decode cX7_init 19 = .ok (.aload_n 0, 1) := by decide +kernel
theorem dX7_init_20 : decode cX7_init 20 = .ok (.iload 4, 2) := by decide +kernel
theorem dX7_init_22 : decode cX7_init 22 = .ok (.putfield 20, 3) := by decide +kernel
theorem dX7_init_25 : decode cX7_init 25 = .ok (.aload_n 0, 1) := by decide +kernel
theorem dX7_init_26 : decode cX7_init 26 = .ok (.iload 5, 2) := by decide +kernel
theorem dX7_init_28 : decode cX7_init 28 = .ok (.putfield 23, 3) := by decide +kernel
theorem dX7_init_31 : decode cX7_init 31 = .ok (.return_, 1) := by decide +kernel
theorem dX8_init_0 : decode cX8_init 0 = .ok (.aload_n 0, 1) := by decide +kernel
theorem dX8_init_1 : decode cX8_init 1 = .ok (.invokespecial 3, 3) := by decide +kernel
theorem dX8_init_4 : decode cX8_init 4 = .ok (.aload_n 0, 1) := by decide +kernel
theorem dX8_init_5 : decode cX8_init 5 = .ok (.sipush 1000, 3) := by decide +kernel
theorem dX8_init_8 : decode cX8_init 8 = .ok (.newarray .byte, 2) := by decide +kernel
theorem dX8_init_10 : decode cX8_init 10 = .ok (.putfield 9, 3) := by decide +kernel
theorem dX8_init_13 : decode cX8_init 13 = .ok (.return_, 1) := by decide +kernel
theorem dX8_addBytes_0 : decode cX8_addBytes 0 = .ok (.bipush 56, 2) := by decide +kernel
theorem dX8_addBytes_2 : decode cX8_addBytes 2 = .ok (.istore_n 3, 1) := by decide +kernel
theorem dX8_addBytes_3 : decode cX8_addBytes 3 = .ok (.iload_n 3, 1) := by decide +kernel
theorem dX8_addBytes_4 : decode cX8_addBytes 4 = .ok (.ifCond .lt 82, 3) := by decide +kernel
theorem dX8_addBytes_7 : decode cX8_addBytes 7 = .ok (.lload_n 1, 1) := by decide +kernel
theorem dX8_addBytes_8 : decode cX8_addBytes 8 = .ok (.iload_n 3, 1) := by decide +kernel
theorem dX8_addBytes_9 : decode cX8_addBytes 9 = .ok (.lushr, 1) := by decide +kernel
theorem dX8_addBytes_10 : decode cX8_addBytes 10 = .ok (.l2i, 1) := by decide +kernel
theorem dX8_addBytes_11 : decode cX8_addBytes 11 = .ok (.sipush 255, 3) := by decide +kernel
theorem dX8_addBytes_14 : decode cX8_addBytes 14 = .ok (.iand, 1) := by decide +kernel
theorem dX8_addBytes_15 : decode cX8_addBytes 15 = .ok (.istore 4, 2) := by decide +kernel
theorem dX8_addBytes_17 : decode cX8_addBytes 17 = .ok (.iload 4, 2) := by decide +kernel
theorem dX8_addBytes_19 : decode cX8_addBytes 19 = .ok (.bipush 10, 2) := by decide +kernel
theorem dX8_addBytes_21 : decode cX8_addBytes 21 = .ok (.if_icmp .eq 15, 3) := by decide +kernel
theorem dX8_addBytes_24 : decode cX8_addBytes 24 = .ok (.iload 4, 2) := by decide +kernel
theorem dX8_addBytes_26 : decode cX8_addBytes 26 = .ok (.bipush 32, 2) := by decide +kernel
theorem dX8_addBytes_28 : decode cX8_addBytes 28 = .ok (.bipush 126, 2) := by decide +kernel
theorem dX8_addBytes_30 : decode cX8_addBytes 30 = .ok (.invokestatic 15, 3) := by decide +kernel
theorem dX8_addBytes_33 : decode cX8_addBytes 33 = .ok (.ifCond .eq 7, 3) := by decide +kernel
theorem dX8_addBytes_36 : decode cX8_addBytes 36 = .ok (.iconst 1, 1) := by decide +kernel
theorem dX8_addBytes_37 : decode cX8_addBytes 37 = .ok (.goto 4, 3) := by decide +kernel
theorem dX8_addBytes_40 : decode cX8_addBytes 40 = .ok (.iconst 0, 1) := by decide +kernel
theorem dX8_addBytes_41 : decode cX8_addBytes 41 = .ok (.istore 5, 2) := by decide +kernel
theorem dX8_addBytes_43 : decode cX8_addBytes 43 = .ok (.iload 5, 2) := by decide +kernel
theorem dX8_addBytes_45 : decode cX8_addBytes 45 = .ok (.ifCond .eq 35, 3) := by decide +kernel
theorem dX8_addBytes_48 : decode cX8_addBytes 48 = .ok (.aload_n 0, 1) := by decide +kernel
theorem dX8_addBytes_49 : decode cX8_addBytes 49 = .ok (.getfield 19, 3) := by decide +kernel
theorem dX8_addBytes_52 : decode cX8_addBytes 52 = .ok (.sipush 1000, 3) := by decide +kernel
theorem dX8_addBytes_55 : decode cX8_addBytes 55 = .ok (.if_icmp .ge 25, 3) := by decide +kernel
theorem dX8_addBytes_58 : decode cX8_addBytes 58 = .ok (.aload_n 0, 1) := by decide +kernel
theorem dX8_addBytes_59 : decode cX8_addBytes 59 = .ok (.getfield 9, 3) := by decide +kernel
theorem dX8_addBytes_62 : decode cX8_addBytes 62 = .ok (.aload_n 0, 1) := by decide +kernel
theorem dX8_addBytes_63 : decode cX8_addBytes 63 = .ok (.getfield 19, 3) := by decide +kernel
theorem dX8_addBytes_66 : decode cX8_addBytes 66 = .ok (.iload 4, 2) := by decide +kernel
theorem dX8_addBytes_68 : decode cX8_addBytes 68 = .ok (.i2b, 1) := by decide +kernel
theorem dX8_addBytes_69 : decode cX8_addBytes 69 = .ok (.bastore, 1) := by decide +kernel
theorem dX8_addBytes_70 : decode cX8_addBytes 70 = .ok (.aload_n 0, 1) := by decide +kernel
theorem dX8_addBytes_71 : decode cX8_addBytes 71 = .ok (.dup, 1) := by decide +kernel
theorem dX8_addBytes_72 : decode cX8_addBytes 72 = .ok (.getfield 19, 3) := by decide +kernel
theorem dX8_addBytes_75 : decode cX8_addBytes 75 = .ok (.iconst 1, 1) := by decide +kernel
theorem dX8_addBytes_76 : decode cX8_addBytes 76 = .ok (.iadd, 1) := by decide +kernel
theorem dX8_addBytes_77 : decode cX8_addBytes 77 = .ok (.putfield 19, 3) := by decide +kernel
theorem dX8_addBytes_80 : decode cX8_addBytes 80 = .ok (.iinc 3 (-8), 3) := by decide +kernel
theorem dX8_addBytes_83 : decode cX8_addBytes 83 = .ok (.goto (-80), 3) := by decide +kernel
theorem dX8_addBytes_86 : decode cX8_addBytes 86 = .ok (.return_, 1) := by decide +kernel
theorem dX8_rewind_0 : decode cX8_rewind 0 = .ok (.aload_n 0, 1) := by decide +kernel
theorem dX8_rewind_1 : decode cX8_rewind 1 = .ok (.iconst 0, 1) := by decide +kernel
theorem dX8_rewind_2 : decode cX8_rewind 2 = .ok (.putfield 23, 3) := by decide +kernel
theorem dX8_rewind_5 : decode cX8_rewind 5 = .ok (.aload_n 0, 1) := by decide +kernel
theorem dX8_rewind_6 : decode cX8_rewind 6 = .ok (.invokevirtual 26, 3) := by decide +kernel
theorem dX8_rewind_9 : decode cX8_rewind 9 = .ok (.return_, 1) := by decide +kernel
theorem dX8_step_0 : decode cX8_step 0 = .ok (.aload_n 0, 1) := by decide +kernel
theorem dX8_step_1 : decode cX8_step 1 = .ok (.getfield 23, 3) := by decide +kernel
theorem dX8_step_4 : decode cX8_step 4 = .ok (.aload_n 0, 1) := by decide +kernel
theorem dX8_step_5 : decode cX8_step 5 = .ok (.getfield 19, 3) := by decide +kernel
theorem dX8_step_8 : decode cX8_step 8 = .ok (.if_icmp .ge 31, 3) := by decide +kernel
theorem dX8_step_11 : decode cX8_step 11 = .ok (.aload_n 0, 1) := by decide +kernel
theorem dX8_step_12 : decode cX8_step 12 = .ok (.getfield 9, 3) := by decide +kernel
theorem dX8_step_15 : decode cX8_step 15 = .ok (.aload_n 0, 1) := by decide +kernel
theorem dX8_step_16 : decode cX8_step 16 = .ok (.getfield 23, 3) := by decide +kernel
theorem dX8_step_19 : decode cX8_step 19 = .ok (.baload, 1) := by decide +kernel
theorem dX8_step_20 : decode cX8_step 20 = .ok (.invokestatic 29, 3) := by decide +kernel
theorem dX8_step_23 : decode cX8_step 23 = .ok (.ifCond .eq 16, 3) := by decide +kernel
theorem dX8_step_26 : decode cX8_step 26 = .ok (.aload_n 0, 1) := by decide +kernel
theorem dX8_step_27 : decode cX8_step 27 = .ok (.dup, 1) := by decide +kernel
theorem dX8_step_28 : decode cX8_step 28 = .ok (.getfield 23, 3) := by decide +kernel
theorem dX8_step_31 : decode cX8_step 31 = .ok (.iconst 1, 1) := by decide +kernel
theorem dX8_step_32 : decode cX8_step 32 = .ok (.iadd, 1) := by decide +kernel
theorem dX8_step_33 : decode cX8_step 33 = .ok (.putfield 23, 3) := by decide +kernel
theorem dX8_step_36 : decode cX8_step 36 = .ok (.goto (-36), 3) := by decide +kernel
theorem dX8_step_39 : decode cX8_step 39 = .ok (.aload_n 0, 1) := by decide +kernel
theorem dX8_step_40 : decode cX8_step 40 = .ok (.aload_n 0, 1) := by decide +kernel
theorem dX8_step_41 : decode cX8_step 41 = .ok (.getfield 23, 3) := by decide +kernel
theorem dX8_step_44 : decode cX8_step 44 = .ok (.putfield 33, 3) := by decide +kernel
theorem dX8_step_47 : decode cX8_step 47 = .ok (.aload_n 0, 1) := by decide +kernel
theorem dX8_step_48 : decode cX8_step 48 = .ok (.getfield 33, 3) := by decide +kernel
theorem dX8_step_51 : decode cX8_step 51 = .ok (.aload_n 0, 1) := by decide +kernel
theorem dX8_step_52 : decode cX8_step 52 = .ok (.getfield 19, 3) := by decide +kernel
theorem dX8_step_55 : decode cX8_step 55 = .ok (.if_icmp .lt 11, 3) := by decide +kernel
theorem dX8_step_58 : decode cX8_step 58 = .ok (.aload_n 0, 1) := by decide +kernel
theorem dX8_step_59 : decode cX8_step 59 = .ok (.iconst 1, 1) := by decide +kernel
theorem dX8_step_60 : decode cX8_step 60 = .ok (.putfield 36, 3) := by decide +kernel
theorem dX8_step_63 : decode cX8_step 63 = .ok (.goto 73, 3) := by decide +kernel
theorem dX8_step_66 : decode cX8_step 66 = .ok (.aload_n 0, 1) := by decide +kernel
theorem dX8_step_67 : decode cX8_step 67 = .ok (.getfield 9, 3) := by decide +kernel
theorem dX8_step_70 : decode cX8_step 70 = .ok (.aload_n 0, 1) := by decide +kernel
theorem dX8_step_71 : decode cX8_step 71 = .ok (.getfield 33, 3) := by decide +kernel
theorem dX8_step_74 : decode cX8_step 74 = .ok (.baload, 1) := by decide +kernel
theorem dX8_step_75 : decode cX8_step 75 = .ok (.invokestatic 39, 3) := by decide +kernel
theorem dX8_step_78 : decode cX8_step 78 = .ok (.ifCond .eq 10, 3) := by decide +kernel
theorem dX8_step_81 : decode cX8_step 81 = .ok (.aload_n 0, 1) := by decide +kernel
theorem dX8_step_82 : decode cX8_step 82 = .ok (.invokevirtual 42, 3) := by decide +kernel
theorem dX8_step_85 : decode cX8_step 85 = .ok (.goto 51, 3) := by decide +kernel
theorem dX8_step_88 : decode cX8_step 88 = .ok (.aload_n 0, 1) := by decide +kernel
theorem dX8_step_89 : decode cX8_step 89 = .ok (.getfield 9, 3) := by decide +kernel
theorem dX8_step_92 : decode cX8_step 92 = .ok (.aload_n 0, 1) := by decide +kernel
theorem dX8_step_93 : decode cX8_step 93 = .ok (.getfield 33, 3) := by decide +kernel
theorem dX8_step_96 : decode cX8_step 96 = .ok (.baload, 1) := by decide +kernel
theorem dX8_step_97 : decode cX8_step 97 = .ok (.invokestatic 45, 3) := by decide +kernel
theorem dX8_step_100 : decode cX8_step 100 = .ok (.ifCond .eq 10, 3) := by decide +kernel
theorem dX8_step_103 : decode cX8_step 103 = .ok (.aload_n 0, 1) := by decide +kernel
theorem dX8_step_104 : decode cX8_step 104 = .ok (.invokevirtual 48, 3) := by decide +kernel
theorem dX8_step_107 : decode cX8_step 107 = .ok (.goto 29, 3) := by decide +kernel
theorem dX8_step_110 : decode cX8_step 110 = .ok (.aload_n 0, 1) := by decide +kernel
theorem dX8_step_111 : decode cX8_step 111 = .ok (.aload_n 0, 1) := by decide +kernel
theorem dX8_step_112 : decode cX8_step 112 = .ok (.getfield 9, 3) := by decide +kernel
theorem dX8_step_115 : decode cX8_step 115 = .ok (.aload_n 0, 1) := by decide +kernel
theorem dX8_step_116 : decode cX8_step 116 = .ok (.getfield 33, 3) := by decide +kernel
theorem dX8_step_119 : decode cX8_step 119 = .ok (.baload, 1) := by decide +kernel
theorem dX8_step_120 : decode cX8_step 120 = .ok (.invokestatic 51, 3) := by decide +kernel
theorem dX8_step_123 : decode cX8_step 123 = .ok (.putfield 36, 3) := by decide +kernel
theorem dX8_step_126 : decode cX8_step 126 = .ok (.aload_n 0, 1) := by decide +kernel
theorem dX8_step_127 : decode cX8_step 127 = .ok (.dup, 1) := by decide +kernel
theorem dX8_step_128 : decode cX8_step 128 = .ok (.getfield 23, 3) := by decide +kernel
theorem dX8_step_131 : decode cX8_step 131 = .ok (.iconst 1, 1) := by decide +kernel
theorem dX8_step_132 : decode cX8_step 132 = .ok (.iadd, 1) := by decide +kernel
theorem dX8_step_133 : decode cX8_step 133 = .ok (.putfield 23, 3) := by decide +kernel
theorem dX8_step_136 : decode cX8_step 136 = .ok (.return_, 1) := by decide +kernel
theorem dX8_stepWord_0 : decode cX8_stepWord 0 = .ok (.aload_n 0, 1) := by decide +kernel
theorem dX8_stepWord_1 : decode cX8_stepWord 1 = .ok (.lconst 0, 1) := by decide +kernel
theorem dX8_stepWord_2 : decode cX8_stepWord 2 = .ok (.putfield 55, 3) := by decide +kernel
theorem dX8_stepWord_5 : decode cX8_stepWord 5 = .ok (.aload_n 0, 1) := by decide +kernel
theorem dX8_stepWord_6 : decode cX8_stepWord 6 = .ok (.getfield 23, 3) := by decide +kernel
theorem dX8_stepWord_9 : decode cX8_stepWord 9 = .ok (.aload_n 0, 1) := by decide +kernel
theorem dX8_stepWord_10 : decode cX8_stepWord 10 = .ok (.getfield 19, 3) := by decide +kernel
theorem dX8_stepWord_13 : decode cX8_stepWord 13 = .ok (.if_icmp .ge 53, 3) := by decide +kernel
theorem dX8_stepWord_16 : decode cX8_stepWord 16 = .ok (.aload_n 0, 1) := by decide +kernel
theorem dX8_stepWord_17 : decode cX8_stepWord 17 = .ok (.getfield 9, 3) := by decide +kernel
theorem dX8_stepWord_20 : decode cX8_stepWord 20 = .ok (.aload_n 0, 1) := by decide +kernel
theorem dX8_stepWord_21 : decode cX8_stepWord 21 = .ok (.getfield 23, 3) := by decide +kernel
theorem dX8_stepWord_24 : decode cX8_stepWord 24 = .ok (.baload, 1) := by decide +kernel
theorem dX8_stepWord_25 : decode cX8_stepWord 25 = .ok (.invokestatic 39, 3) := by decide +kernel
theorem dX8_stepWord_28 : decode cX8_stepWord 28 = .ok (.ifCond .eq 38, 3) := by decide +kernel
theorem dX8_stepWord_31 : decode cX8_stepWord 31 = .ok (.aload_n 0, 1) := by decide +kernel
theorem dX8_stepWord_32 : decode cX8_stepWord 32 = .ok (.aload_n 0, 1) := by decide +kernel
theorem dX8_stepWord_33 : decode cX8_stepWord 33 = .ok (.getfield 55, 3) := by decide +kernel
theorem dX8_stepWord_36 : decode cX8_stepWord 36 = .ok (.bipush 8, 2) := by decide +kernel
theorem dX8_stepWord_38 : decode cX8_stepWord 38 = .ok (.lshl, 1) := by decide +kernel
theorem dX8_stepWord_39 : decode cX8_stepWord 39 = .ok (.aload_n 0, 1) := by decide +kernel
theorem dX8_stepWord_40 : decode cX8_stepWord 40 = .ok (.getfield 9, 3) := by decide +kernel
theorem dX8_stepWord_43 : decode cX8_stepWord 43 = .ok (.aload_n 0, 1) := by decide +kernel
theorem dX8_stepWord_44 : decode cX8_stepWord 44 = .ok (.getfield 23, 3) := by decide +kernel
theorem dX8_stepWord_47 : decode cX8_stepWord 47 = .ok (.baload, 1) := by decide +kernel
theorem dX8_stepWord_48 : decode cX8_stepWord 48 = .ok (.i2l, 1) := by decide +kernel
theorem dX8_stepWord_49 : decode cX8_stepWord 49 = .ok (.lor, 1) := by decide +kernel
theorem dX8_stepWord_50 : decode cX8_stepWord 50 = .ok (.putfield 55, 3) := by decide +kernel
theorem dX8_stepWord_53 : decode cX8_stepWord 53 = .ok (.aload_n 0, 1) := by decide +kernel
theorem dX8_stepWord_54 : decode cX8_stepWord 54 = .ok (.dup, 1) := by decide +kernel
theorem dX8_stepWord_55 : decode cX8_stepWord 55 = .ok (.getfield 23, 3) := by decide +kernel
theorem dX8_stepWord_58 : decode cX8_stepWord 58 = .ok (.iconst 1, 1) := by decide +kernel
theorem dX8_stepWord_59 : decode cX8_stepWord 59 = .ok (.iadd, 1) := by decide +kernel
theorem dX8_stepWord_60 : decode cX8_stepWord 60 = .ok (.putfield 23, 3) := by decide +kernel
theorem dX8_stepWord_63 : decode cX8_stepWord 63 = .ok (.goto (-58), 3) := by decide +kernel
theorem dX8_stepWord_66 : decode cX8_stepWord 66 = .ok (.aload_n 0, 1) := by decide +kernel
theorem dX8_stepWord_67 : decode cX8_stepWord 67 = .ok (.aload_n 0, 1) := by decide +kernel
theorem dX8_stepWord_68 : decode cX8_stepWord 68 = .ok (.getfield 23, 3) := by decide +kernel
theorem dX8_stepWord_71 : decode cX8_stepWord 71 = .ok (.aload_n 0, 1) := by decide +kernel
theorem dX8_stepWord_72 : decode cX8_stepWord 72 = .ok (.getfield 33, 3) := by decide +kernel
theorem dX8_stepWord_75 : decode cX8_stepWord 75 = .ok (.isub, 1) := by decide +kernel
theorem dX8_stepWord_76 : decode cX8_stepWord 76 = .ok (.bipush 8, 2) := by decide +kernel
theorem dX8_stepWord_78 : decode cX8_stepWord 78 = .ok (.if_icmp .le 7, 3) := by decide +kernel
theorem dX8_stepWord_81 : decode cX8_stepWord 81 = .ok (.iconst 0, 1) := by decide +kernel
theorem dX8_stepWord_82 : decode cX8_stepWord 82 = .ok (.goto 7, 3) := by decide +kernel
theorem dX8_stepWord_85 : decode cX8_stepWord 85 = .ok (.aload_n 0, 1) := by decide +kernel
theorem dX8_stepWord_86 : decode cX8_stepWord 86 = .ok (.invokevirtual 59, 3) := by decide +kernel
theorem dX8_stepWord_89 : decode cX8_stepWord 89 = .ok (.putfield 36, 3) := by decide +kernel
theorem dX8_stepWord_92 : decode cX8_stepWord 92 = .ok (.return_, 1) := by decide +kernel
theorem dX8_stepNumber_0 : decode cX8_stepNumber 0 = .ok (.aload_n 0, 1) := by decide +kernel
theorem dX8_stepNumber_1 : decode cX8_stepNumber 1 = .ok (.iconst 0, 1) := by decide +kernel
theorem dX8_stepNumber_2 : decode cX8_stepNumber 2 = .ok (.putfield 63, 3) := by decide +kernel
theorem dX8_stepNumber_5 : decode cX8_stepNumber 5 = .ok (.aload_n 0, 1) := by decide +kernel
theorem dX8_stepNumber_6 : decode cX8_stepNumber 6 = .ok (.getfield 23, 3) := by decide +kernel
theorem dX8_stepNumber_9 : decode cX8_stepNumber 9 = .ok (.aload_n 0, 1) := by decide +kernel
theorem dX8_stepNumber_10 : decode cX8_stepNumber 10 = .ok (.getfield 19, 3) := by decide +kernel
theorem dX8_stepNumber_13 : decode cX8_stepNumber 13 = .ok (.if_icmp .ge 55, 3) := by decide +kernel
theorem dX8_stepNumber_16 : decode cX8_stepNumber 16 = .ok (.aload_n 0, 1) := by decide +kernel
theorem dX8_stepNumber_17 : decode cX8_stepNumber 17 = .ok (.getfield 9, 3) := by decide +kernel
theorem dX8_stepNumber_20 : decode cX8_stepNumber 20 = .ok (.aload_n 0, 1) := by decide +kernel
theorem dX8_stepNumber_21 : decode cX8_stepNumber 21 = .ok (.getfield 23, 3) := by decide +kernel
theorem dX8_stepNumber_24 : decode cX8_stepNumber 24 = .ok (.baload, 1) := by decide +kernel
theorem dX8_stepNumber_25 : decode cX8_stepNumber 25 = .ok (.invokestatic 45, 3) := by decide +kernel
theorem dX8_stepNumber_28 : decode cX8_stepNumber 28 = .ok (.ifCond .eq 40, 3) := by decide +kernel
theorem dX8_stepNumber_31 : decode cX8_stepNumber 31 = .ok (.aload_n 0, 1) := by decide +kernel
theorem dX8_stepNumber_32 : decode cX8_stepNumber 32 = .ok (.aload_n 0, 1) := by decide +kernel
theorem dX8_stepNumber_33 : decode cX8_stepNumber 33 = .ok (.getfield 63, 3) := by decide +kernel
theorem dX8_stepNumber_36 : decode cX8_stepNumber 36 = .ok (.bipush 10, 2) := by decide +kernel
theorem dX8_stepNumber_38 : decode cX8_stepNumber 38 = .ok (.imul, 1) := by decide +kernel
theorem dX8_stepNumber_39 : decode cX8_stepNumber 39 = .ok (.aload_n 0, 1) := by decide +kernel
theorem dX8_stepNumber_40 : decode cX8_stepNumber 40 = .ok (.getfield 9, 3) := by decide +kernel
theorem dX8_stepNumber_43 : decode cX8_stepNumber 43 = .ok (.aload_n 0, 1) := by decide +kernel
theorem dX8_stepNumber_44 : decode cX8_stepNumber 44 = .ok (.getfield 23, 3) := by decide +kernel
theorem dX8_stepNumber_47 : decode cX8_stepNumber 47 = .ok (.baload, 1) := by decide +kernel
theorem dX8_stepNumber_48 : decode cX8_stepNumber 48 = .ok (.bipush 48, 2) := by decide +kernel
theorem dX8_stepNumber_50 : decode cX8_stepNumber 50 = .ok (.isub, 1) := by decide +kernel
theorem dX8_stepNumber_51 : decode cX8_stepNumber 51 = .ok (.iadd, 1) := by decide +kernel
theorem dX8_stepNumber_52 : decode cX8_stepNumber 52 = .ok (.putfield 63, 3) := by decide +kernel
theorem dX8_stepNumber_55 : decode cX8_stepNumber 55 = .ok (.aload_n 0, 1) := by decide +kernel
theorem dX8_stepNumber_56 : decode cX8_stepNumber 56 = .ok (.dup, 1) := by decide +kernel
theorem dX8_stepNumber_57 : decode cX8_stepNumber 57 = .ok (.getfield 23, 3) := by decide +kernel
theorem dX8_stepNumber_60 : decode cX8_stepNumber 60 = .ok (.iconst 1, 1) := by decide +kernel
theorem dX8_stepNumber_61 : decode cX8_stepNumber 61 = .ok (.iadd, 1) := by decide +kernel
theorem dX8_stepNumber_62 : decode cX8_stepNumber 62 = .ok (.putfield 23, 3) := by decide +kernel
theorem dX8_stepNumber_65 : decode cX8_stepNumber 65 = .ok (.goto (-60), 3) := by decide +kernel
theorem dX8_stepNumber_68 : decode cX8_stepNumber 68 = .ok (.aload_n 0, 1) := by decide +kernel
theorem dX8_stepNumber_69 : decode cX8_stepNumber 69 = .ok (.aload_n 0, 1) := by decide +kernel
theorem dX8_stepNumber_70 : decode cX8_stepNumber 70 = .ok (.getfield 23, 3) := by decide +kernel
theorem dX8_stepNumber_73 : decode cX8_stepNumber 73 = .ok (.aload_n 0, 1) := by decide +kernel
theorem dX8_stepNumber_74 : decode cX8_stepNumber 74 = .ok (.getfield 33, 3) := by decide +kernel
theorem dX8_stepNumber_77 : decode cX8_stepNumber 77 = .ok (.isub, 1) := by decide +kernel
theorem dX8_stepNumber_78 : decode cX8_stepNumber 78 = .ok (.iconst 4, 1) := by decide +kernel
theorem dX8_stepNumber_79 : decode cX8_stepNumber 79 = .ok (.if_icmp .le 7, 3) := by decide +kernel
theorem dX8_stepNumber_82 : decode cX8_stepNumber 82 = .ok (.iconst 0, 1) := by decide +kernel
theorem dX8_stepNumber_83 : decode cX8_stepNumber 83 = .ok (.goto 4, 3) := by decide +kernel
theorem dX8_stepNumber_86 : decode cX8_stepNumber 86 = .ok (.iconst 2, 1) := by decide +kernel
theorem dX8_stepNumber_87 : decode cX8_stepNumber 87 = .ok (.putfield 36, 3) := by decide +kernel
theorem dX8_stepNumber_90 : decode cX8_stepNumber 90 = .ok (.return_, 1) := by decide +kernel
theorem dX8_isBlank_0 : decode cX8_isBlank 0 = .ok (.iload_n 0, 1) := by decide +kernel
theorem dX8_isBlank_1 : decode cX8_isBlank 1 = .ok (.bipush 10, 2) := by decide +kernel
theorem dX8_isBlank_3 : decode cX8_isBlank 3 = .ok (.if_icmp .eq 9, 3) := by decide +kernel
theorem dX8_isBlank_6 : decode cX8_isBlank 6 = .ok (.iload_n 0, 1) := by decide +kernel
theorem dX8_isBlank_7 : decode cX8_isBlank 7 = .ok (.bipush 32, 2) := by decide +kernel
theorem dX8_isBlank_9 : decode cX8_isBlank 9 = .ok (.if_icmp .ne 7, 3) := by decide +kernel
theorem dX8_isBlank_12 : decode cX8_isBlank 12 = .ok (.iconst 1, 1) := by decide +kernel
theorem dX8_isBlank_13 : decode cX8_isBlank 13 = .ok (.goto 4, 3) := by decide +kernel
theorem dX8_isBlank_16 : decode cX8_isBlank 16 = .ok (.iconst 0, 1) := by decide +kernel
theorem dX8_isBlank_17 : decode cX8_isBlank 17 = .ok (.ireturn, 1) := by decide +kernel
theorem dX8_isLetter_0 : decode cX8_isLetter 0 = .ok (.iload_n 0, 1) := by decide +kernel
theorem dX8_isLetter_1 : decode cX8_isLetter 1 = .ok (.bipush 97, 2) := by decide +kernel
theorem dX8_isLetter_3 : decode cX8_isLetter 3 = .ok (.if_icmp .lt 13, 3) := by decide +kernel
theorem dX8_isLetter_6 : decode cX8_isLetter 6 = .ok (.iload_n 0, 1) := by decide +kernel
theorem dX8_isLetter_7 : decode cX8_isLetter 7 = .ok (.bipush 122, 2) := by decide +kernel
theorem dX8_isLetter_9 : decode cX8_isLetter 9 = .ok (.if_icmp .gt 7, 3) := by decide +kernel
theorem dX8_isLetter_12 : decode cX8_isLetter 12 = .ok (.iconst 1, 1) := by decide +kernel
theorem dX8_isLetter_13 : decode cX8_isLetter 13 = .ok (.goto 4, 3) := by decide +kernel
theorem dX8_isLetter_16 : decode cX8_isLetter 16 = .ok (.iconst 0, 1) := by decide +kernel
theorem dX8_isLetter_17 : decode cX8_isLetter 17 = .ok (.ireturn, 1) := by decide +kernel
theorem dX8_isDigit_0 : decode cX8_isDigit 0 = .ok (.iload_n 0, 1) := by decide +kernel
theorem dX8_isDigit_1 : decode cX8_isDigit 1 = .ok (.bipush 48, 2) := by decide +kernel
theorem dX8_isDigit_3 : decode cX8_isDigit 3 = .ok (.if_icmp .lt 13, 3) := by decide +kernel
theorem dX8_isDigit_6 : decode cX8_isDigit 6 = .ok (.iload_n 0, 1) := by decide +kernel
theorem dX8_isDigit_7 : decode cX8_isDigit 7 = .ok (.bipush 57, 2) := by decide +kernel
theorem dX8_isDigit_9 : decode cX8_isDigit 9 = .ok (.if_icmp .gt 7, 3) := by decide +kernel
theorem dX8_isDigit_12 : decode cX8_isDigit 12 = .ok (.iconst 1, 1) := by decide +kernel
theorem dX8_isDigit_13 : decode cX8_isDigit 13 = .ok (.goto 4, 3) := by decide +kernel
theorem dX8_isDigit_16 : decode cX8_isDigit 16 = .ok (.iconst 0, 1) := by decide +kernel
theorem dX8_isDigit_17 : decode cX8_isDigit 17 = .ok (.ireturn, 1) := by decide +kernel
theorem dX8_kindOfSign_0 : decode cX8_kindOfSign 0 = .ok (.iload_n 0, 1) := by decide +kernel
theorem dX8_kindOfSign_1 : decode cX8_kindOfSign 1 = .ok (.tableswitch 125 40 61 #[103, 105, 119, 113, 125, 116, 125, 125, 125, 125, 125, 125, 125, 125, 125, 125, 125, 125, 125, 122, 107, 110], 103) := by decide +kernel
theorem dX8_kindOfSign_104 : decode cX8_kindOfSign 104 = .ok (.iconst 4, 1) := by decide +kernel
theorem dX8_kindOfSign_105 : decode cX8_kindOfSign 105 = .ok (.ireturn, 1) := by decide +kernel
theorem dX8_kindOfSign_106 : decode cX8_kindOfSign 106 = .ok (.iconst 5, 1) := by decide +kernel
theorem dX8_kindOfSign_107 : decode cX8_kindOfSign 107 = .ok (.ireturn, 1) := by decide +kernel
theorem dX8_kindOfSign_108 : decode cX8_kindOfSign 108 = .ok (.bipush 6, 2) := by decide +kernel
theorem dX8_kindOfSign_110 : decode cX8_kindOfSign 110 = .ok (.ireturn, 1) := by decide +kernel
theorem dX8_kindOfSign_111 : decode cX8_kindOfSign 111 = .ok (.bipush 7, 2) := by decide +kernel
theorem dX8_kindOfSign_113 : decode cX8_kindOfSign 113 = .ok (.ireturn, 1) := by decide +kernel
theorem dX8_kindOfSign_114 : decode cX8_kindOfSign 114 = .ok (.bipush 8, 2) := by decide +kernel
theorem dX8_kindOfSign_116 : decode cX8_kindOfSign 116 = .ok (.ireturn, 1) := by decide +kernel
theorem dX8_kindOfSign_117 : decode cX8_kindOfSign 117 = .ok (.bipush 9, 2) := by decide +kernel
theorem dX8_kindOfSign_119 : decode cX8_kindOfSign 119 = .ok (.ireturn, 1) := by decide +kernel
theorem dX8_kindOfSign_120 : decode cX8_kindOfSign 120 = .ok (.bipush 10, 2) := by decide +kernel
theorem dX8_kindOfSign_122 : decode cX8_kindOfSign 122 = .ok (.ireturn, 1) := by decide +kernel
theorem dX8_kindOfSign_123 : decode cX8_kindOfSign 123 = .ok (.bipush 11, 2) := by decide +kernel
theorem dX8_kindOfSign_125 : decode cX8_kindOfSign 125 = .ok (.ireturn, 1) := by decide +kernel
theorem dX8_kindOfSign_126 : decode cX8_kindOfSign 126 = .ok (.iconst 0, 1) := by decide +kernel
theorem dX8_kindOfSign_127 : decode cX8_kindOfSign 127 = .ok (.ireturn, 1) := by decide +kernel
theorem dX8_kindOfWord_0 : decode cX8_kindOfWord 0 = .ok (.iconst 0, 1) := by decide +kernel
theorem dX8_kindOfWord_1 : decode cX8_kindOfWord 1 = .ok (.istore_n 1, 1) := by decide +kernel
theorem dX8_kindOfWord_2 : decode cX8_kindOfWord 2 = .ok (.iload_n 1, 1) := by decide +kernel
theorem dX8_kindOfWord_3 : decode cX8_kindOfWord 3 = .ok (.getstatic 66, 3) := by decide +kernel
theorem dX8_kindOfWord_6 : decode cX8_kindOfWord 6 = .ok (.arraylength, 1) := by decide +kernel
theorem dX8_kindOfWord_7 : decode cX8_kindOfWord 7 = .ok (.if_icmp .ge 27, 3) := by decide +kernel
theorem dX8_kindOfWord_10 : decode cX8_kindOfWord 10 = .ok (.getstatic 66, 3) := by decide +kernel
theorem dX8_kindOfWord_13 : decode cX8_kindOfWord 13 = .ok (.iload_n 1, 1) := by decide +kernel
theorem dX8_kindOfWord_14 : decode cX8_kindOfWord 14 = .ok (.laload, 1) := by decide +kernel
theorem dX8_kindOfWord_15 : decode cX8_kindOfWord 15 = .ok (.aload_n 0, 1) := by decide +kernel
theorem dX8_kindOfWord_16 : decode cX8_kindOfWord 16 = .ok (.getfield 55, 3) := by decide +kernel
theorem dX8_kindOfWord_19 : decode cX8_kindOfWord 19 = .ok (.lcmp, 1) := by decide +kernel
theorem dX8_kindOfWord_20 : decode cX8_kindOfWord 20 = .ok (.ifCond .ne 8, 3) := by decide +kernel
theorem dX8_kindOfWord_23 : decode cX8_kindOfWord 23 = .ok (.bipush 12, 2) := by decide +kernel
theorem dX8_kindOfWord_25 : decode cX8_kindOfWord 25 = .ok (.iload_n 1, 1) := by decide +kernel
theorem dX8_kindOfWord_26 : decode cX8_kindOfWord 26 = .ok (.iadd, 1) := by decide +kernel
theorem dX8_kindOfWord_27 : decode cX8_kindOfWord 27 = .ok (.ireturn, 1) := by decide +kernel
theorem dX8_kindOfWord_28 : decode cX8_kindOfWord 28 = .ok (.iinc 1 1, 3) := by decide +kernel
theorem dX8_kindOfWord_31 : decode cX8_kindOfWord 31 = .ok (.goto (-29), 3) := by decide +kernel
theorem dX8_kindOfWord_34 : decode cX8_kindOfWord 34 = .ok (.iconst 3, 1) := by decide +kernel
theorem dX8_kindOfWord_35 : decode cX8_kindOfWord 35 = .ok (.ireturn, 1) := by decide +kernel
theorem dX9_init_0 : decode cX9_init 0 = .ok (.aload_n 0, 1) := by decide +kernel
theorem dX9_init_1 : decode cX9_init 1 = .ok (.invokespecial 3, 3) := by decide +kernel
theorem dX9_init_4 : decode cX9_init 4 = .ok (.aload_n 0, 1) := by decide +kernel
theorem dX9_init_5 : decode cX9_init 5 = .ok (.bipush 12, 2) := by decide +kernel
theorem dX9_init_7 : decode cX9_init 7 = .ok (.anewarray 9, 3) := by decide +kernel
theorem dX9_init_10 : decode cX9_init 10 = .ok (.putfield 11, 3) := by decide +kernel
theorem dX9_init_13 : decode cX9_init 13 = .ok (.aload_n 0, 1) := by decide +kernel
theorem dX9_init_14 : decode cX9_init 14 = .ok (.bipush 12, 2) := by decide +kernel
theorem dX9_init_16 : decode cX9_init 16 = .ok (.newarray .int, 2) := by decide +kernel
theorem dX9_init_18 : decode cX9_init 18 = .ok (.putfield 17, 3) := by decide +kernel
theorem dX9_init_21 : decode cX9_init 21 = .ok (.aload_n 0, 1) := by decide +kernel
theorem dX9_init_22 : decode cX9_init 22 = .ok (.bipush 12, 2) := by decide +kernel
theorem dX9_init_24 : decode cX9_init 24 = .ok (.newarray .int, 2) := by decide +kernel
theorem dX9_init_26 : decode cX9_init 26 = .ok (.putfield 21, 3) := by decide +kernel
theorem dX9_init_29 : decode cX9_init 29 = .ok (.aload_n 0, 1) := by decide +kernel
theorem dX9_init_30 : decode cX9_init 30 = .ok (.bipush 12, 2) := by decide +kernel
theorem dX9_init_32 : decode cX9_init 32 = .ok (.newarray .boolean, 2) := by decide +kernel
theorem dX9_init_34 : decode cX9_init 34 = .ok (.putfield 24, 3) := by decide +kernel
theorem dX9_init_37 : decode cX9_init 37 = .ok (.aload_n 0, 1) := by decide +kernel
theorem dX9_init_38 : decode cX9_init 38 = .ok (.aload_n 1, 1) := by decide +kernel
theorem dX9_init_39 : decode cX9_init 39 = .ok (.putfield 28, 3) := by decide +kernel
theorem dX9_init_42 : decode cX9_init 42 = .ok (.return_, 1) := by decide +kernel
theorem dX9_refresh_0 : decode cX9_refresh 0 = .ok (.aload_n 0, 1) := by decide +kernel
theorem dX9_refresh_1 : decode cX9_refresh 1 = .ok (.getfield 32, 3) := by decide +kernel
theorem dX9_refresh_4 : decode cX9_refresh 4 = .ok (.aload_n 0, 1) := by decide +kernel
theorem dX9_refresh_5 : decode cX9_refresh 5 = .ok (.getfield 28, 3) := by decide +kernel
theorem dX9_refresh_8 : decode cX9_refresh 8 = .ok (.getfield 36, 3) := by decide +kernel
theorem dX9_refresh_11 : decode cX9_refresh 11 = .ok (.if_icmp .ne 4, 3) := by decide +kernel
theorem dX9_refresh_14 : decode cX9_refresh 14 = .ok (.return_, 1) := by decide +kernel
theorem dX9_refresh_15 : decode cX9_refresh 15 = .ok (.aload_n 0, 1) := by decide +kernel
theorem dX9_refresh_16 : decode cX9_refresh 16 = .ok (.aload_n 0, 1) := by decide +kernel
theorem dX9_refresh_17 : decode cX9_refresh 17 = .ok (.getfield 28, 3) := by decide +kernel
theorem dX9_refresh_20 : decode cX9_refresh 20 = .ok (.getfield 36, 3) := by decide +kernel
theorem dX9_refresh_23 : decode cX9_refresh 23 = .ok (.putfield 32, 3) := by decide +kernel
theorem dX9_refresh_26 : decode cX9_refresh 26 = .ok (.aload_n 0, 1) := by decide +kernel
theorem dX9_refresh_27 : decode cX9_refresh 27 = .ok (.invokevirtual 39, 3) := by decide +kernel
theorem dX9_refresh_30 : decode cX9_refresh 30 = .ok (.aload_n 0, 1) := by decide +kernel
theorem dX9_refresh_31 : decode cX9_refresh 31 = .ok (.iconst 0, 1) := by decide +kernel
theorem dX9_refresh_32 : decode cX9_refresh 32 = .ok (.putfield 42, 3) := by decide +kernel
theorem dX9_refresh_35 : decode cX9_refresh 35 = .ok (.iconst 0, 1) := by decide +kernel
theorem dX9_refresh_36 : decode cX9_refresh 36 = .ok (.istore_n 1, 1) := by decide +kernel
theorem dX9_refresh_37 : decode cX9_refresh 37 = .ok (.iload_n 1, 1) := by decide +kernel
theorem dX9_refresh_38 : decode cX9_refresh 38 = .ok (.aload_n 0, 1) := by decide +kernel
theorem dX9_refresh_39 : decode cX9_refresh 39 = .ok (.getfield 28, 3) := by decide +kernel
theorem dX9_refresh_42 : decode cX9_refresh 42 = .ok (.getfield 45, 3) := by decide +kernel
theorem dX9_refresh_45 : decode cX9_refresh 45 = .ok (.if_icmp .ge 55, 3) := by decide +kernel
theorem dX9_refresh_48 : decode cX9_refresh 48 = .ok (.aload_n 0, 1) := by decide +kernel
theorem dX9_refresh_49 : decode cX9_refresh 49 = .ok (.getfield 28, 3) := by decide +kernel
theorem dX9_refresh_52 : decode cX9_refresh 52 = .ok (.getfield 48, 3) := by decide +kernel
theorem dX9_refresh_55 : decode cX9_refresh 55 = .ok (.iload_n 1, 1) := by decide +kernel
theorem dX9_refresh_56 : decode cX9_refresh 56 = .ok (.aaload, 1) := by decide +kernel
theorem dX9_refresh_57 : decode cX9_refresh 57 = .ok (.astore_n 2, 1) := by decide +kernel
theorem dX9_refresh_58 : decode cX9_refresh 58 = .ok (.aload_n 0, 1) := by decide +kernel
theorem dX9_refresh_59 : decode cX9_refresh 59 = .ok (.getfield 28, 3) := by decide +kernel
theorem dX9_refresh_62 : decode cX9_refresh 62 = .ok (.aload_n 2, 1) := by decide +kernel
theorem dX9_refresh_63 : decode cX9_refresh 63 = .ok (.invokevirtual 51, 3) := by decide +kernel
theorem dX9_refresh_66 : decode cX9_refresh 66 = .ok (.ifCond .eq 28, 3) := by decide +kernel
theorem dX9_refresh_69 : decode cX9_refresh 69 = .ok (.aload_n 2, 1) := by decide +kernel
theorem dX9_refresh_70 : decode cX9_refresh 70 = .ok (.getfield 55, 3) := by decide +kernel
theorem dX9_refresh_73 : decode cX9_refresh 73 = .ok (.iconst 4, 1) := by decide +kernel
theorem dX9_refresh_74 : decode cX9_refresh 74 = .ok (.if_icmp .ne 20, 3) := by decide +kernel
theorem dX9_refresh_77 : decode cX9_refresh 77 = .ok (.aload_n 0, 1) := by decide +kernel
theorem dX9_refresh_78 : decode cX9_refresh 78 = .ok (.iload_n 1, 1) := by decide +kernel
theorem dX9_refresh_79 : decode cX9_refresh 79 = .ok (.aload_n 2, 1) := by decide +kernel
theorem dX9_refresh_80 : decode cX9_refresh 80 = .ok (.getfield 58, 3) := by decide +kernel
theorem dX9_refresh_83 : decode cX9_refresh 83 = .ok (.aload_n 2, 1) := by decide +kernel
theorem dX9_refresh_84 : decode cX9_refresh 84 = .ok (.getfield 61, 3) := by decide +kernel
theorem dX9_refresh_87 : decode cX9_refresh 87 = .ok (.invokevirtual 64, 3) := by decide +kernel
theorem dX9_refresh_90 : decode cX9_refresh 90 = .ok (.aload_n 0, 1) := by decide +kernel
theorem dX9_refresh_91 : decode cX9_refresh 91 = .ok (.invokevirtual 68, 3) := by decide +kernel
theorem dX9_refresh_94 : decode cX9_refresh 94 = .ok (.iinc 1 1, 3) := by decide +kernel
theorem dX9_refresh_97 : decode cX9_refresh 97 = .ok (.goto (-60), 3) := by decide +kernel
theorem dX9_refresh_100 : decode cX9_refresh 100 = .ok (.aload_n 0, 1) := by decide +kernel
theorem dX9_refresh_101 : decode cX9_refresh 101 = .ok (.invokevirtual 71, 3) := by decide +kernel
theorem dX9_refresh_104 : decode cX9_refresh 104 = .ok (.return_, 1) := by decide +kernel
theorem dX9_fewestOf_0 : decode cX9_fewestOf 0 = .ok (.aload_n 0, 1) := by decide +kernel
theorem dX9_fewestOf_1 : decode cX9_fewestOf 1 = .ok (.iconst 0, 1) := by decide +kernel
theorem dX9_fewestOf_2 : decode cX9_fewestOf 2 = .ok (.iload_n 1, 1) := by decide +kernel
theorem dX9_fewestOf_3 : decode cX9_fewestOf 3 = .ok (.iload_n 2, 1) := by decide +kernel
theorem dX9_fewestOf_4 : decode cX9_fewestOf 4 = .ok (.invokevirtual 64, 3) := by decide +kernel
theorem dX9_fewestOf_7 : decode cX9_fewestOf 7 = .ok (.aload_n 0, 1) := by decide +kernel
theorem dX9_fewestOf_8 : decode cX9_fewestOf 8 = .ok (.getfield 74, 3) := by decide +kernel
theorem dX9_fewestOf_11 : decode cX9_fewestOf 11 = .ok (.aload_n 0, 1) := by decide +kernel
theorem dX9_fewestOf_12 : decode cX9_fewestOf 12 = .ok (.invokevirtual 77, 3) := by decide +kernel
theorem dX9_fewestOf_15 : decode cX9_fewestOf 15 = .ok (.isub, 1) := by decide +kernel
theorem dX9_fewestOf_16 : decode cX9_fewestOf 16 = .ok (.ireturn, 1) := by decide +kernel
theorem dX9_falseAt_0 : decode cX9_falseAt 0 = .ok (.aload_n 0, 1) := by decide +kernel
theorem dX9_falseAt_1 : decode cX9_falseAt 1 = .ok (.iconst 0, 1) := by decide +kernel
theorem dX9_falseAt_2 : decode cX9_falseAt 2 = .ok (.iload_n 1, 1) := by decide +kernel
theorem dX9_falseAt_3 : decode cX9_falseAt 3 = .ok (.iload_n 2, 1) := by decide +kernel
theorem dX9_falseAt_4 : decode cX9_falseAt 4 = .ok (.invokevirtual 64, 3) := by decide +kernel
theorem dX9_falseAt_7 : decode cX9_falseAt 7 = .ok (.aload_n 0, 1) := by decide +kernel
theorem dX9_falseAt_8 : decode cX9_falseAt 8 = .ok (.invokevirtual 77, 3) := by decide +kernel
theorem dX9_falseAt_11 : decode cX9_falseAt 11 = .ok (.istore 4, 2) := by decide +kernel
theorem dX9_falseAt_13 : decode cX9_falseAt 13 = .ok (.iconst 0, 1) := by decide +kernel
theorem dX9_falseAt_14 : decode cX9_falseAt 14 = .ok (.istore 5, 2) := by decide +kernel
theorem dX9_falseAt_16 : decode cX9_falseAt 16 = .ok (.iconst (-1), 1) := by decide +kernel
theorem dX9_falseAt_17 : decode cX9_falseAt 17 = .ok (.istore 6, 2) := by decide +kernel
theorem dX9_falseAt_19 : decode cX9_falseAt 19 = .ok (.iconst 0, 1) := by decide +kernel
theorem dX9_falseAt_20 : decode cX9_falseAt 20 = .ok (.istore 7, 2) := by decide +kernel
theorem dX9_falseAt_22 : decode cX9_falseAt 22 = .ok (.iload 7, 2) := by decide +kernel
theorem dX9_falseAt_24 : decode cX9_falseAt 24 = .ok (.aload_n 0, 1) := by decide +kernel
theorem dX9_falseAt_25 : decode cX9_falseAt 25 = .ok (.getfield 74, 3) := by decide +kernel
theorem dX9_falseAt_28 : decode cX9_falseAt 28 = .ok (.if_icmp .ge 77, 3) := by decide +kernel
theorem dX9_falseAt_31 : decode cX9_falseAt 31 = .ok (.aload_n 0, 1) := by decide +kernel
theorem dX9_falseAt_32 : decode cX9_falseAt 32 = .ok (.iload 6, 2) := by decide +kernel
theorem dX9_falseAt_34 : decode cX9_falseAt 34 = .ok (.invokevirtual 81, 3) := by decide +kernel
theorem dX9_falseAt_37 : decode cX9_falseAt 37 = .ok (.istore 8, 2) := by decide +kernel
theorem dX9_falseAt_39 : decode cX9_falseAt 39 = .ok (.iload 8, 2) := by decide +kernel
theorem dX9_falseAt_41 : decode cX9_falseAt 41 = .ok (.iconst (-1), 1) := by decide +kernel
theorem dX9_falseAt_42 : decode cX9_falseAt 42 = .ok (.if_icmp .ne 5, 3) := by decide +kernel
theorem dX9_falseAt_45 : decode cX9_falseAt 45 = .ok (.iconst (-1), 1) := by decide +kernel
theorem dX9_falseAt_46 : decode cX9_falseAt 46 = .ok (.ireturn, 1) := by decide +kernel
theorem dX9_falseAt_47 : decode cX9_falseAt 47 = .ok (.aload_n 0, 1) := by decide +kernel
theorem dX9_falseAt_48 : decode cX9_falseAt 48 = .ok (.getfield 11, 3) := by decide +kernel
theorem dX9_falseAt_51 : decode cX9_falseAt 51 = .ok (.iload 8, 2) := by decide +kernel
theorem dX9_falseAt_53 : decode cX9_falseAt 53 = .ok (.aaload, 1) := by decide +kernel
theorem dX9_falseAt_54 : decode cX9_falseAt 54 = .ok (.getfield 85, 3) := by decide +kernel
theorem dX9_falseAt_57 : decode cX9_falseAt 57 = .ok (.istore 6, 2) := by decide +kernel
theorem dX9_falseAt_59 : decode cX9_falseAt 59 = .ok (.aload_n 0, 1) := by decide +kernel
theorem dX9_falseAt_60 : decode cX9_falseAt 60 = .ok (.getfield 24, 3) := by decide +kernel
theorem dX9_falseAt_63 : decode cX9_falseAt 63 = .ok (.iload 8, 2) := by decide +kernel
theorem dX9_falseAt_65 : decode cX9_falseAt 65 = .ok (.iconst 1, 1) := by decide +kernel
theorem dX9_falseAt_66 : decode cX9_falseAt 66 = .ok (.bastore, 1) := by decide +kernel
theorem dX9_falseAt_67 : decode cX9_falseAt 67 = .ok (.aload_n 0, 1) := by decide +kernel
theorem dX9_falseAt_68 : decode cX9_falseAt 68 = .ok (.invokevirtual 77, 3) := by decide +kernel
theorem dX9_falseAt_71 : decode cX9_falseAt 71 = .ok (.iload 4, 2) := by decide +kernel
theorem dX9_falseAt_73 : decode cX9_falseAt 73 = .ok (.if_icmp .ge 14, 3) := by decide +kernel
theorem dX9_falseAt_76 : decode cX9_falseAt 76 = .ok (.aload_n 0, 1) := by decide +kernel
theorem dX9_falseAt_77 : decode cX9_falseAt 77 = .ok (.getfield 24, 3) := by decide +kernel
theorem dX9_falseAt_80 : decode cX9_falseAt 80 = .ok (.iload 8, 2) := by decide +kernel
theorem dX9_falseAt_82 : decode cX9_falseAt 82 = .ok (.iconst 0, 1) := by decide +kernel
theorem dX9_falseAt_83 : decode cX9_falseAt 83 = .ok (.bastore, 1) := by decide +kernel
theorem dX9_falseAt_84 : decode cX9_falseAt 84 = .ok (.goto 15, 3) := by decide +kernel
theorem dX9_falseAt_87 : decode cX9_falseAt 87 = .ok (.iload 5, 2) := by decide +kernel
theorem dX9_falseAt_89 : decode cX9_falseAt 89 = .ok (.iload_n 3, 1) := by decide +kernel
theorem dX9_falseAt_90 : decode cX9_falseAt 90 = .ok (.if_icmp .ne 6, 3) := by decide +kernel
theorem dX9_falseAt_93 : decode cX9_falseAt 93 = .ok (.iload 6, 2) := by decide +kernel
theorem dX9_falseAt_95 : decode cX9_falseAt 95 = .ok (.ireturn, 1) := by decide +kernel
theorem dX9_falseAt_96 : decode cX9_falseAt 96 = .ok (.iinc 5 1, 3) := by decide +kernel
theorem dX9_falseAt_99 : decode cX9_falseAt 99 = .ok (.iinc 7 1, 3) := by decide +kernel
theorem dX9_falseAt_102 : decode cX9_falseAt 102 = .ok (.goto (-80), 3) := by decide +kernel
theorem dX9_falseAt_105 : decode cX9_falseAt 105 = .ok (.iconst (-1), 1) := by decide +kernel
theorem dX9_falseAt_106 : decode cX9_falseAt 106 = .ok (.ireturn, 1) := by decide +kernel
theorem dX9_nextByNumber_0 : decode cX9_nextByNumber 0 = .ok (.iconst (-1), 1) := by decide +kernel
theorem dX9_nextByNumber_1 : decode cX9_nextByNumber 1 = .ok (.istore_n 2, 1) := by decide +kernel
theorem dX9_nextByNumber_2 : decode cX9_nextByNumber 2 = .ok (.iconst 0, 1) := by decide +kernel
theorem dX9_nextByNumber_3 : decode cX9_nextByNumber 3 = .ok (.istore_n 3, 1) := by decide +kernel
theorem dX9_nextByNumber_4 : decode cX9_nextByNumber 4 = .ok (.iload_n 3, 1) := by decide +kernel
theorem dX9_nextByNumber_5 : decode cX9_nextByNumber 5 = .ok (.aload_n 0, 1) := by decide +kernel
theorem dX9_nextByNumber_6 : decode cX9_nextByNumber 6 = .ok (.getfield 74, 3) := by decide +kernel
theorem dX9_nextByNumber_9 : decode cX9_nextByNumber 9 = .ok (.if_icmp .ge 47, 3) := by decide +kernel
theorem dX9_nextByNumber_12 : decode cX9_nextByNumber 12 = .ok (.aload_n 0, 1) := by decide +kernel
theorem dX9_nextByNumber_13 : decode cX9_nextByNumber 13 = .ok (.getfield 11, 3) := by decide +kernel
theorem dX9_nextByNumber_16 : decode cX9_nextByNumber 16 = .ok (.iload_n 3, 1) := by decide +kernel
theorem dX9_nextByNumber_17 : decode cX9_nextByNumber 17 = .ok (.aaload, 1) := by decide +kernel
theorem dX9_nextByNumber_18 : decode cX9_nextByNumber 18 = .ok (.getfield 85, 3) := by decide +kernel
theorem dX9_nextByNumber_21 : decode cX9_nextByNumber 21 = .ok (.istore 4, 2) := by decide +kernel
theorem dX9_nextByNumber_23 : decode cX9_nextByNumber 23 = .ok (.iload 4, 2) := by decide +kernel
theorem dX9_nextByNumber_25 : decode cX9_nextByNumber 25 = .ok (.iload_n 1, 1) := by decide +kernel
theorem dX9_nextByNumber_26 : decode cX9_nextByNumber 26 = .ok (.if_icmp .le 24, 3) := by decide +kernel
theorem dX9_nextByNumber_29 : decode cX9_nextByNumber 29 = .ok (.iload_n 2, 1) := by decide +kernel
theorem dX9_nextByNumber_30 : decode cX9_nextByNumber 30 = .ok (.iconst (-1), 1) := by decide +kernel
theorem dX9_nextByNumber_31 : decode cX9_nextByNumber 31 = .ok (.if_icmp .eq 17, 3) := by decide +kernel
theorem dX9_nextByNumber_34 : decode cX9_nextByNumber 34 = .ok (.iload 4, 2) := by decide +kernel
theorem dX9_nextByNumber_36 : decode cX9_nextByNumber 36 = .ok (.aload_n 0, 1) := by decide +kernel
theorem dX9_nextByNumber_37 : decode cX9_nextByNumber 37 = .ok (.getfield 11, 3) := by decide +kernel
theorem dX9_nextByNumber_40 : decode cX9_nextByNumber 40 = .ok (.iload_n 2, 1) := by decide +kernel
theorem dX9_nextByNumber_41 : decode cX9_nextByNumber 41 = .ok (.aaload, 1) := by decide +kernel
theorem dX9_nextByNumber_42 : decode cX9_nextByNumber 42 = .ok (.getfield 85, 3) := by decide +kernel
theorem dX9_nextByNumber_45 : decode cX9_nextByNumber 45 = .ok (.if_icmp .ge 5, 3) := by decide +kernel
theorem dX9_nextByNumber_48 : decode cX9_nextByNumber 48 = .ok (.iload_n 3, 1) := by decide +kernel
theorem dX9_nextByNumber_49 : decode cX9_nextByNumber 49 = .ok (.istore_n 2, 1) := by decide +kernel
theorem dX9_nextByNumber_50 : decode cX9_nextByNumber 50 = .ok (.iinc 3 1, 3) := by decide +kernel
theorem dX9_nextByNumber_53 : decode cX9_nextByNumber 53 = .ok (.goto (-49), 3) := by decide +kernel
theorem dX9_nextByNumber_56 : decode cX9_nextByNumber 56 = .ok (.iload_n 2, 1) := by decide +kernel
theorem dX9_nextByNumber_57 : decode cX9_nextByNumber 57 = .ok (.ireturn, 1) := by decide +kernel
theorem dX9_judgeAlone_0 : decode cX9_judgeAlone 0 = .ok (.iconst 0, 1) := by decide +kernel
theorem dX9_judgeAlone_1 : decode cX9_judgeAlone 1 = .ok (.istore_n 1, 1) := by decide +kernel
theorem dX9_judgeAlone_2 : decode cX9_judgeAlone 2 = .ok (.iload_n 1, 1) := by decide +kernel
theorem dX9_judgeAlone_3 : decode cX9_judgeAlone 3 = .ok (.aload_n 0, 1) := by decide +kernel
theorem dX9_judgeAlone_4 : decode cX9_judgeAlone 4 = .ok (.getfield 28, 3) := by decide +kernel
theorem dX9_judgeAlone_7 : decode cX9_judgeAlone 7 = .ok (.getfield 45, 3) := by decide +kernel
theorem dX9_judgeAlone_10 : decode cX9_judgeAlone 10 = .ok (.if_icmp .ge 36, 3) := by decide +kernel
theorem dX9_judgeAlone_13 : decode cX9_judgeAlone 13 = .ok (.aload_n 0, 1) := by decide +kernel
theorem dX9_judgeAlone_14 : decode cX9_judgeAlone 14 = .ok (.getfield 28, 3) := by decide +kernel
theorem dX9_judgeAlone_17 : decode cX9_judgeAlone 17 = .ok (.getfield 88, 3) := by decide +kernel
theorem dX9_judgeAlone_20 : decode cX9_judgeAlone 20 = .ok (.iload_n 1, 1) := by decide +kernel
theorem dX9_judgeAlone_21 : decode cX9_judgeAlone 21 = .ok (.aaload, 1) := by decide +kernel
theorem dX9_judgeAlone_22 : decode cX9_judgeAlone 22 = .ok (.astore_n 2, 1) := by decide +kernel
theorem dX9_judgeAlone_23 : decode cX9_judgeAlone 23 = .ok (.aload_n 2, 1) := by decide +kernel
theorem dX9_judgeAlone_24 : decode cX9_judgeAlone 24 = .ok (.aload_n 0, 1) := by decide +kernel
theorem dX9_judgeAlone_25 : decode cX9_judgeAlone 25 = .ok (.aload_n 2, 1) := by decide +kernel
theorem dX9_judgeAlone_26 : decode cX9_judgeAlone 26 = .ok (.invokevirtual 91, 3) := by decide +kernel
theorem dX9_judgeAlone_29 : decode cX9_judgeAlone 29 = .ok (.ifCond .eq 7, 3) := by decide +kernel
theorem dX9_judgeAlone_32 : decode cX9_judgeAlone 32 = .ok (.iconst 4, 1) := by decide +kernel
theorem dX9_judgeAlone_33 : decode cX9_judgeAlone 33 = .ok (.goto 4, 3) := by decide +kernel
theorem dX9_judgeAlone_36 : decode cX9_judgeAlone 36 = .ok (.iconst 1, 1) := by decide +kernel
theorem dX9_judgeAlone_37 : decode cX9_judgeAlone 37 = .ok (.putfield 55, 3) := by decide +kernel
theorem dX9_judgeAlone_40 : decode cX9_judgeAlone 40 = .ok (.iinc 1 1, 3) := by decide +kernel
theorem dX9_judgeAlone_43 : decode cX9_judgeAlone 43 = .ok (.goto (-41), 3) := by decide +kernel
theorem dX9_judgeAlone_46 : decode cX9_judgeAlone 46 = .ok (.return_, 1) := by decide +kernel
theorem dX9_canBeAlone_0 : decode cX9_canBeAlone 0 = .ok (.aload_n 0, 1) := by decide +kernel
theorem dX9_canBeAlone_1 : decode cX9_canBeAlone 1 = .ok (.getfield 28, 3) := by decide +kernel
theorem dX9_canBeAlone_4 : decode cX9_canBeAlone 4 = .ok (.getfield 94, 3) := by decide +kernel
theorem dX9_canBeAlone_7 : decode cX9_canBeAlone 7 = .ok (.aload_n 1, 1) := by decide +kernel
theorem dX9_canBeAlone_8 : decode cX9_canBeAlone 8 = .ok (.getfield 98, 3) := by decide +kernel
theorem dX9_canBeAlone_11 : decode cX9_canBeAlone 11 = .ok (.aaload, 1) := by decide +kernel
theorem dX9_canBeAlone_12 : decode cX9_canBeAlone 12 = .ok (.astore_n 2, 1) := by decide +kernel
theorem dX9_canBeAlone_13 : decode cX9_canBeAlone 13 = .ok (.aload_n 1, 1) := by decide +kernel
theorem dX9_canBeAlone_14 : decode cX9_canBeAlone 14 = .ok (.getfield 101, 3) := by decide +kernel
theorem dX9_canBeAlone_17 : decode cX9_canBeAlone 17 = .ok (.aload_n 2, 1) := by decide +kernel
theorem dX9_canBeAlone_18 : decode cX9_canBeAlone 18 = .ok (.getfield 104, 3) := by decide +kernel
theorem dX9_canBeAlone_21 : decode cX9_canBeAlone 21 = .ok (.if_icmp .lt 16, 3) := by decide +kernel
theorem dX9_canBeAlone_24 : decode cX9_canBeAlone 24 = .ok (.aload_n 1, 1) := by decide +kernel
theorem dX9_canBeAlone_25 : decode cX9_canBeAlone 25 = .ok (.invokevirtual 109, 3) := by decide +kernel
theorem dX9_canBeAlone_28 : decode cX9_canBeAlone 28 = .ok (.iconst 1, 1) := by decide +kernel
theorem dX9_canBeAlone_29 : decode cX9_canBeAlone 29 = .ok (.isub, 1) := by decide +kernel
theorem dX9_canBeAlone_30 : decode cX9_canBeAlone 30 = .ok (.aload_n 2, 1) := by decide +kernel
theorem dX9_canBeAlone_31 : decode cX9_canBeAlone 31 = .ok (.getfield 112, 3) := by decide +kernel
theorem dX9_canBeAlone_34 : decode cX9_canBeAlone 34 = .ok (.if_icmp .le 5, 3) := by decide +kernel
theorem dX9_canBeAlone_37 : decode cX9_canBeAlone 37 = .ok (.iconst 0, 1) := by decide +kernel
theorem dX9_canBeAlone_38 : decode cX9_canBeAlone 38 = .ok (.ireturn, 1) := by decide +kernel
theorem dX9_canBeAlone_39 : decode cX9_canBeAlone 39 = .ok (.aload_n 1, 1) := by decide +kernel
theorem dX9_canBeAlone_40 : decode cX9_canBeAlone 40 = .ok (.getfield 115, 3) := by decide +kernel
theorem dX9_canBeAlone_43 : decode cX9_canBeAlone 43 = .ok (.iconst (-1), 1) := by decide +kernel
theorem dX9_canBeAlone_44 : decode cX9_canBeAlone 44 = .ok (.if_icmp .eq 25, 3) := by decide +kernel
theorem dX9_canBeAlone_47 : decode cX9_canBeAlone 47 = .ok (.aload_n 1, 1) := by decide +kernel
theorem dX9_canBeAlone_48 : decode cX9_canBeAlone 48 = .ok (.getfield 115, 3) := by decide +kernel
theorem dX9_canBeAlone_51 : decode cX9_canBeAlone 51 = .ok (.aload_n 1, 1) := by decide +kernel
theorem dX9_canBeAlone_52 : decode cX9_canBeAlone 52 = .ok (.getfield 101, 3) := by decide +kernel
theorem dX9_canBeAlone_55 : decode cX9_canBeAlone 55 = .ok (.aload_n 1, 1) := by decide +kernel
theorem dX9_canBeAlone_56 : decode cX9_canBeAlone 56 = .ok (.invokevirtual 109, 3) := by decide +kernel
theorem dX9_canBeAlone_59 : decode cX9_canBeAlone 59 = .ok (.iconst 1, 1) := by decide +kernel
theorem dX9_canBeAlone_60 : decode cX9_canBeAlone 60 = .ok (.isub, 1) := by decide +kernel
theorem dX9_canBeAlone_61 : decode cX9_canBeAlone 61 = .ok (.invokestatic 118, 3) := by decide +kernel
theorem dX9_canBeAlone_64 : decode cX9_canBeAlone 64 = .ok (.ifCond .ne 5, 3) := by decide +kernel
theorem dX9_canBeAlone_67 : decode cX9_canBeAlone 67 = .ok (.iconst 0, 1) := by decide +kernel
theorem dX9_canBeAlone_68 : decode cX9_canBeAlone 68 = .ok (.ireturn, 1) := by decide +kernel
theorem dX9_canBeAlone_69 : decode cX9_canBeAlone 69 = .ok (.aload_n 1, 1) := by decide +kernel
theorem dX9_canBeAlone_70 : decode cX9_canBeAlone 70 = .ok (.getfield 122, 3) := by decide +kernel
theorem dX9_canBeAlone_73 : decode cX9_canBeAlone 73 = .ok (.iconst 1, 1) := by decide +kernel
theorem dX9_canBeAlone_74 : decode cX9_canBeAlone 74 = .ok (.iand, 1) := by decide +kernel
theorem dX9_canBeAlone_75 : decode cX9_canBeAlone 75 = .ok (.iconst 1, 1) := by decide +kernel
theorem dX9_canBeAlone_76 : decode cX9_canBeAlone 76 = .ok (.if_icmp .eq 10, 3) := by decide +kernel
theorem dX9_canBeAlone_79 : decode cX9_canBeAlone 79 = .ok (.aload_n 1, 1) := by decide +kernel
theorem dX9_canBeAlone_80 : decode cX9_canBeAlone 80 = .ok (.getfield 122, 3) := by decide +kernel
theorem dX9_canBeAlone_83 : decode cX9_canBeAlone 83 = .ok (.ifCond .ne 7, 3) := by decide +kernel
theorem dX9_canBeAlone_86 : decode cX9_canBeAlone 86 = .ok (.iconst 1, 1) := by decide +kernel
theorem dX9_canBeAlone_87 : decode cX9_canBeAlone 87 = .ok (.goto 4, 3) := by decide +kernel
theorem dX9_canBeAlone_90 : decode cX9_canBeAlone 90 = .ok (.iconst 0, 1) := by decide +kernel
theorem dX9_canBeAlone_91 : decode cX9_canBeAlone 91 = .ok (.ireturn, 1) := by decide +kernel
theorem dX9_countThem_0 : decode cX9_countThem 0 = .ok (.aload_n 0, 1) := by decide +kernel
theorem dX9_countThem_1 : decode cX9_countThem 1 = .ok (.iconst 0, 1) := by decide +kernel
theorem dX9_countThem_2 : decode cX9_countThem 2 = .ok (.putfield 125, 3) := by decide +kernel
theorem dX9_countThem_5 : decode cX9_countThem 5 = .ok (.aload_n 0, 1) := by decide +kernel
theorem dX9_countThem_6 : decode cX9_countThem 6 = .ok (.iconst 0, 1) := by decide +kernel
theorem dX9_countThem_7 : decode cX9_countThem 7 = .ok (.putfield 128, 3) := by decide +kernel
theorem dX9_countThem_10 : decode cX9_countThem 10 = .ok (.aload_n 0, 1) := by decide +kernel
theorem dX9_countThem_11 : decode cX9_countThem 11 = .ok (.getfield 28, 3) := by decide +kernel
theorem dX9_countThem_14 : decode cX9_countThem 14 = .ok (.invokevirtual 131, 3) := by decide +kernel
theorem dX9_countThem_17 : decode cX9_countThem 17 = .ok (.istore_n 1, 1) := by decide +kernel
theorem dX9_countThem_18 : decode cX9_countThem 18 = .ok (.iconst 0, 1) := by decide +kernel
theorem dX9_countThem_19 : decode cX9_countThem 19 = .ok (.istore_n 2, 1) := by decide +kernel
theorem dX9_countThem_20 : decode cX9_countThem 20 = .ok (.iload_n 2, 1) := by decide +kernel
theorem dX9_countThem_21 : decode cX9_countThem 21 = .ok (.iload_n 1, 1) := by decide +kernel
theorem dX9_countThem_22 : decode cX9_countThem 22 = .ok (.if_icmp .ge 62, 3) := by decide +kernel
theorem dX9_countThem_25 : decode cX9_countThem 25 = .ok (.aload_n 0, 1) := by decide +kernel
theorem dX9_countThem_26 : decode cX9_countThem 26 = .ok (.getfield 28, 3) := by decide +kernel
theorem dX9_countThem_29 : decode cX9_countThem 29 = .ok (.getfield 88, 3) := by decide +kernel
theorem dX9_countThem_32 : decode cX9_countThem 32 = .ok (.iload_n 2, 1) := by decide +kernel
theorem dX9_countThem_33 : decode cX9_countThem 33 = .ok (.aaload, 1) := by decide +kernel
theorem dX9_countThem_34 : decode cX9_countThem 34 = .ok (.astore_n 3, 1) := by decide +kernel
theorem dX9_countThem_35 : decode cX9_countThem 35 = .ok (.aload_n 0, 1) := by decide +kernel
theorem dX9_countThem_36 : decode cX9_countThem 36 = .ok (.dup, 1) := by decide +kernel
theorem dX9_countThem_37 : decode cX9_countThem 37 = .ok (.getfield 125, 3) := by decide +kernel
theorem dX9_countThem_40 : decode cX9_countThem 40 = .ok (.aload_n 3, 1) := by decide +kernel
theorem dX9_countThem_41 : decode cX9_countThem 41 = .ok (.invokevirtual 134, 3) := by decide +kernel
theorem dX9_countThem_44 : decode cX9_countThem 44 = .ok (.ifCond .eq 7, 3) := by decide +kernel
theorem dX9_countThem_47 : decode cX9_countThem 47 = .ok (.iconst 1, 1) := by decide +kernel
theorem dX9_countThem_48 : decode cX9_countThem 48 = .ok (.goto 4, 3) := by decide +kernel
theorem dX9_countThem_51 : decode cX9_countThem 51 = .ok (.iconst 0, 1) := by decide +kernel
theorem dX9_countThem_52 : decode cX9_countThem 52 = .ok (.iadd, 1) := by decide +kernel
theorem dX9_countThem_53 : decode cX9_countThem 53 = .ok (.putfield 125, 3) := by decide +kernel
theorem dX9_countThem_56 : decode cX9_countThem 56 = .ok (.aload_n 0, 1) := by decide +kernel
theorem dX9_countThem_57 : decode cX9_countThem 57 = .ok (.dup, 1) := by decide +kernel
theorem dX9_countThem_58 : decode cX9_countThem 58 = .ok (.getfield 128, 3) := by decide +kernel
theorem dX9_countThem_61 : decode cX9_countThem 61 = .ok (.aload_n 3, 1) := by decide +kernel
theorem dX9_countThem_62 : decode cX9_countThem 62 = .ok (.getfield 55, 3) := by decide +kernel
theorem dX9_countThem_65 : decode cX9_countThem 65 = .ok (.iconst 1, 1) := by decide +kernel
theorem dX9_countThem_66 : decode cX9_countThem 66 = .ok (.if_icmp .ne 7, 3) := by decide +kernel
theorem dX9_countThem_69 : decode cX9_countThem 69 = .ok (.iconst 1, 1) := by decide +kernel
theorem dX9_countThem_70 : decode cX9_countThem 70 = .ok (.goto 4, 3) := by decide +kernel
theorem dX9_countThem_73 : decode cX9_countThem 73 = .ok (.iconst 0, 1) := by decide +kernel
theorem dX9_countThem_74 : decode cX9_countThem 74 = .ok (.iadd, 1) := by decide +kernel
theorem dX9_countThem_75 : decode cX9_countThem 75 = .ok (.putfield 128, 3) := by decide +kernel
theorem dX9_countThem_78 : decode cX9_countThem 78 = .ok (.iinc 2 1, 3) := by decide +kernel
theorem dX9_countThem_81 : decode cX9_countThem 81 = .ok (.goto (-61), 3) := by decide +kernel
theorem dX9_countThem_84 : decode cX9_countThem 84 = .ok (.return_, 1) := by decide +kernel
theorem dX9_gather_0 : decode cX9_gather 0 = .ok (.aload_n 0, 1) := by decide +kernel
theorem dX9_gather_1 : decode cX9_gather 1 = .ok (.iconst 0, 1) := by decide +kernel
theorem dX9_gather_2 : decode cX9_gather 2 = .ok (.putfield 74, 3) := by decide +kernel
theorem dX9_gather_5 : decode cX9_gather 5 = .ok (.iload_n 1, 1) := by decide +kernel
theorem dX9_gather_6 : decode cX9_gather 6 = .ok (.istore 4, 2) := by decide +kernel
theorem dX9_gather_8 : decode cX9_gather 8 = .ok (.iload 4, 2) := by decide +kernel
theorem dX9_gather_10 : decode cX9_gather 10 = .ok (.aload_n 0, 1) := by decide +kernel
theorem dX9_gather_11 : decode cX9_gather 11 = .ok (.getfield 28, 3) := by decide +kernel
theorem dX9_gather_14 : decode cX9_gather 14 = .ok (.getfield 45, 3) := by decide +kernel
theorem dX9_gather_17 : decode cX9_gather 17 = .ok (.if_icmp .ge 129, 3) := by decide +kernel
theorem dX9_gather_20 : decode cX9_gather 20 = .ok (.aload_n 0, 1) := by decide +kernel
theorem dX9_gather_21 : decode cX9_gather 21 = .ok (.getfield 28, 3) := by decide +kernel
theorem dX9_gather_24 : decode cX9_gather 24 = .ok (.getfield 48, 3) := by decide +kernel
theorem dX9_gather_27 : decode cX9_gather 27 = .ok (.iload 4, 2) := by decide +kernel
theorem dX9_gather_29 : decode cX9_gather 29 = .ok (.aaload, 1) := by decide +kernel
theorem dX9_gather_30 : decode cX9_gather 30 = .ok (.getfield 61, 3) := by decide +kernel
theorem dX9_gather_33 : decode cX9_gather 33 = .ok (.iload_n 3, 1) := by decide +kernel
theorem dX9_gather_34 : decode cX9_gather 34 = .ok (.if_icmp .gt 112, 3) := by decide +kernel
theorem dX9_gather_37 : decode cX9_gather 37 = .ok (.aload_n 0, 1) := by decide +kernel
theorem dX9_gather_38 : decode cX9_gather 38 = .ok (.getfield 28, 3) := by decide +kernel
theorem dX9_gather_41 : decode cX9_gather 41 = .ok (.getfield 48, 3) := by decide +kernel
theorem dX9_gather_44 : decode cX9_gather 44 = .ok (.iload 4, 2) := by decide +kernel
theorem dX9_gather_46 : decode cX9_gather 46 = .ok (.aaload, 1) := by decide +kernel
theorem dX9_gather_47 : decode cX9_gather 47 = .ok (.astore 5, 2) := by decide +kernel
theorem dX9_gather_49 : decode cX9_gather 49 = .ok (.aload 5, 2) := by decide +kernel
theorem dX9_gather_51 : decode cX9_gather 51 = .ok (.getfield 61, 3) := by decide +kernel
theorem dX9_gather_54 : decode cX9_gather 54 = .ok (.iload_n 3, 1) := by decide +kernel
theorem dX9_gather_55 : decode cX9_gather 55 = .ok (.if_icmp .ne 37, 3) := by decide +kernel
theorem dX9_gather_58 : decode cX9_gather 58 = .ok (.aload 5, 2) := by decide +kernel
theorem dX9_gather_60 : decode cX9_gather 60 = .ok (.getfield 58, 3) := by decide +kernel
theorem dX9_gather_63 : decode cX9_gather 63 = .ok (.iload_n 2, 1) := by decide +kernel
theorem dX9_gather_64 : decode cX9_gather 64 = .ok (.if_icmp .ne 28, 3) := by decide +kernel
theorem dX9_gather_67 : decode cX9_gather 67 = .ok (.aload_n 0, 1) := by decide +kernel
theorem dX9_gather_68 : decode cX9_gather 68 = .ok (.getfield 28, 3) := by decide +kernel
theorem dX9_gather_71 : decode cX9_gather 71 = .ok (.aload 5, 2) := by decide +kernel
theorem dX9_gather_73 : decode cX9_gather 73 = .ok (.invokevirtual 51, 3) := by decide +kernel
theorem dX9_gather_76 : decode cX9_gather 76 = .ok (.ifCond .eq 16, 3) := by decide +kernel
theorem dX9_gather_79 : decode cX9_gather 79 = .ok (.aload 5, 2) := by decide +kernel
theorem dX9_gather_81 : decode cX9_gather 81 = .ok (.getfield 55, 3) := by decide +kernel
theorem dX9_gather_84 : decode cX9_gather 84 = .ok (.iconst 1, 1) := by decide +kernel
theorem dX9_gather_85 : decode cX9_gather 85 = .ok (.if_icmp .eq 7, 3) := by decide +kernel
theorem dX9_gather_88 : decode cX9_gather 88 = .ok (.iconst 1, 1) := by decide +kernel
theorem dX9_gather_89 : decode cX9_gather 89 = .ok (.goto 4, 3) := by decide +kernel
theorem dX9_gather_92 : decode cX9_gather 92 = .ok (.iconst 0, 1) := by decide +kernel
theorem dX9_gather_93 : decode cX9_gather 93 = .ok (.istore 6, 2) := by decide +kernel
theorem dX9_gather_95 : decode cX9_gather 95 = .ok (.iload 6, 2) := by decide +kernel
theorem dX9_gather_97 : decode cX9_gather 97 = .ok (.ifCond .eq 43, 3) := by decide +kernel
theorem dX9_gather_100 : decode cX9_gather 100 = .ok (.aload_n 0, 1) := by decide +kernel
theorem dX9_gather_101 : decode cX9_gather 101 = .ok (.getfield 74, 3) := by decide +kernel
theorem dX9_gather_104 : decode cX9_gather 104 = .ok (.bipush 12, 2) := by decide +kernel
theorem dX9_gather_106 : decode cX9_gather 106 = .ok (.if_icmp .ge 34, 3) := by decide +kernel
theorem dX9_gather_109 : decode cX9_gather 109 = .ok (.aload_n 0, 1) := by decide +kernel
theorem dX9_gather_110 : decode cX9_gather 110 = .ok (.getfield 11, 3) := by decide +kernel
theorem dX9_gather_113 : decode cX9_gather 113 = .ok (.aload_n 0, 1) := by decide +kernel
theorem dX9_gather_114 : decode cX9_gather 114 = .ok (.getfield 74, 3) := by decide +kernel
theorem dX9_gather_117 : decode cX9_gather 117 = .ok (.aload 5, 2) := by decide +kernel
theorem dX9_gather_119 : decode cX9_gather 119 = .ok (.aastore, 1) := by decide +kernel
theorem dX9_gather_120 : decode cX9_gather 120 = .ok (.aload_n 0, 1) := by decide +kernel
theorem dX9_gather_121 : decode cX9_gather 121 = .ok (.getfield 24, 3) := by decide +kernel
theorem dX9_gather_124 : decode cX9_gather 124 = .ok (.aload_n 0, 1) := by decide +kernel
theorem dX9_gather_125 : decode cX9_gather 125 = .ok (.getfield 74, 3) := by decide +kernel
theorem dX9_gather_128 : decode cX9_gather 128 = .ok (.iconst 0, 1) := by decide +kernel
theorem dX9_gather_129 : decode cX9_gather 129 = .ok (.bastore, 1) := by decide +kernel
theorem dX9_gather_130 : decode cX9_gather 130 = .ok (.aload_n 0, 1) := by decide +kernel
theorem dX9_gather_131 : decode cX9_gather 131 = .ok (.dup, 1) := by decide +kernel
theorem dX9_gather_132 : decode cX9_gather 132 = .ok (.getfield 74, 3) := by decide +kernel
theorem dX9_gather_135 : decode cX9_gather 135 = .ok (.iconst 1, 1) := by decide +kernel
theorem dX9_gather_136 : decode cX9_gather 136 = .ok (.iadd, 1) := by decide +kernel
theorem dX9_gather_137 : decode cX9_gather 137 = .ok (.putfield 74, 3) := by decide +kernel
theorem dX9_gather_140 : decode cX9_gather 140 = .ok (.iinc 4 1, 3) := by decide +kernel
theorem dX9_gather_143 : decode cX9_gather 143 = .ok (.goto (-135), 3) := by decide +kernel
theorem dX9_gather_146 : decode cX9_gather 146 = .ok (.return_, 1) := by decide +kernel
theorem dX9_judgeGroup_0 : decode cX9_judgeGroup 0 = .ok (.aload_n 0, 1) := by decide +kernel
theorem dX9_judgeGroup_1 : decode cX9_judgeGroup 1 = .ok (.invokevirtual 77, 3) := by decide +kernel
theorem dX9_judgeGroup_4 : decode cX9_judgeGroup 4 = .ok (.istore_n 1, 1) := by decide +kernel
theorem dX9_judgeGroup_5 : decode cX9_judgeGroup 5 = .ok (.aload_n 0, 1) := by decide +kernel
theorem dX9_judgeGroup_6 : decode cX9_judgeGroup 6 = .ok (.invokevirtual 138, 3) := by decide +kernel
theorem dX9_judgeGroup_9 : decode cX9_judgeGroup 9 = .ok (.iconst 0, 1) := by decide +kernel
theorem dX9_judgeGroup_10 : decode cX9_judgeGroup 10 = .ok (.istore_n 2, 1) := by decide +kernel
theorem dX9_judgeGroup_11 : decode cX9_judgeGroup 11 = .ok (.iload_n 2, 1) := by decide +kernel
theorem dX9_judgeGroup_12 : decode cX9_judgeGroup 12 = .ok (.aload_n 0, 1) := by decide +kernel
theorem dX9_judgeGroup_13 : decode cX9_judgeGroup 13 = .ok (.getfield 74, 3) := by decide +kernel
theorem dX9_judgeGroup_16 : decode cX9_judgeGroup 16 = .ok (.if_icmp .ge 64, 3) := by decide +kernel
theorem dX9_judgeGroup_19 : decode cX9_judgeGroup 19 = .ok (.aload_n 0, 1) := by decide +kernel
theorem dX9_judgeGroup_20 : decode cX9_judgeGroup 20 = .ok (.getfield 17, 3) := by decide +kernel
theorem dX9_judgeGroup_23 : decode cX9_judgeGroup 23 = .ok (.iload_n 2, 1) := by decide +kernel
theorem dX9_judgeGroup_24 : decode cX9_judgeGroup 24 = .ok (.iaload, 1) := by decide +kernel
theorem dX9_judgeGroup_25 : decode cX9_judgeGroup 25 = .ok (.aload_n 0, 1) := by decide +kernel
theorem dX9_judgeGroup_26 : decode cX9_judgeGroup 26 = .ok (.getfield 21, 3) := by decide +kernel
theorem dX9_judgeGroup_29 : decode cX9_judgeGroup 29 = .ok (.iload_n 2, 1) := by decide +kernel
theorem dX9_judgeGroup_30 : decode cX9_judgeGroup 30 = .ok (.iaload, 1) := by decide +kernel
theorem dX9_judgeGroup_31 : decode cX9_judgeGroup 31 = .ok (.iadd, 1) := by decide +kernel
theorem dX9_judgeGroup_32 : decode cX9_judgeGroup 32 = .ok (.iconst 1, 1) := by decide +kernel
theorem dX9_judgeGroup_33 : decode cX9_judgeGroup 33 = .ok (.isub, 1) := by decide +kernel
theorem dX9_judgeGroup_34 : decode cX9_judgeGroup 34 = .ok (.iload_n 1, 1) := by decide +kernel
theorem dX9_judgeGroup_35 : decode cX9_judgeGroup 35 = .ok (.if_icmp .ge 16, 3) := by decide +kernel
theorem dX9_judgeGroup_38 : decode cX9_judgeGroup 38 = .ok (.aload_n 0, 1) := by decide +kernel
theorem dX9_judgeGroup_39 : decode cX9_judgeGroup 39 = .ok (.getfield 11, 3) := by decide +kernel
theorem dX9_judgeGroup_42 : decode cX9_judgeGroup 42 = .ok (.iload_n 2, 1) := by decide +kernel
theorem dX9_judgeGroup_43 : decode cX9_judgeGroup 43 = .ok (.aaload, 1) := by decide +kernel
theorem dX9_judgeGroup_44 : decode cX9_judgeGroup 44 = .ok (.iconst 2, 1) := by decide +kernel
theorem dX9_judgeGroup_45 : decode cX9_judgeGroup 45 = .ok (.putfield 55, 3) := by decide +kernel
theorem dX9_judgeGroup_48 : decode cX9_judgeGroup 48 = .ok (.goto 26, 3) := by decide +kernel
theorem dX9_judgeGroup_51 : decode cX9_judgeGroup 51 = .ok (.aload_n 0, 1) := by decide +kernel
theorem dX9_judgeGroup_52 : decode cX9_judgeGroup 52 = .ok (.getfield 11, 3) := by decide +kernel
theorem dX9_judgeGroup_55 : decode cX9_judgeGroup 55 = .ok (.iload_n 2, 1) := by decide +kernel
theorem dX9_judgeGroup_56 : decode cX9_judgeGroup 56 = .ok (.aaload, 1) := by decide +kernel
theorem dX9_judgeGroup_57 : decode cX9_judgeGroup 57 = .ok (.aload_n 0, 1) := by decide +kernel
theorem dX9_judgeGroup_58 : decode cX9_judgeGroup 58 = .ok (.iload_n 2, 1) := by decide +kernel
theorem dX9_judgeGroup_59 : decode cX9_judgeGroup 59 = .ok (.iload_n 1, 1) := by decide +kernel
theorem dX9_judgeGroup_60 : decode cX9_judgeGroup 60 = .ok (.invokevirtual 141, 3) := by decide +kernel
theorem dX9_judgeGroup_63 : decode cX9_judgeGroup 63 = .ok (.ifCond .eq 7, 3) := by decide +kernel
theorem dX9_judgeGroup_66 : decode cX9_judgeGroup 66 = .ok (.iconst 0, 1) := by decide +kernel
theorem dX9_judgeGroup_67 : decode cX9_judgeGroup 67 = .ok (.goto 4, 3) := by decide +kernel
theorem dX9_judgeGroup_70 : decode cX9_judgeGroup 70 = .ok (.iconst 3, 1) := by decide +kernel
theorem dX9_judgeGroup_71 : decode cX9_judgeGroup 71 = .ok (.putfield 55, 3) := by decide +kernel
theorem dX9_judgeGroup_74 : decode cX9_judgeGroup 74 = .ok (.iinc 2 1, 3) := by decide +kernel
theorem dX9_judgeGroup_77 : decode cX9_judgeGroup 77 = .ok (.goto (-66), 3) := by decide +kernel
theorem dX9_judgeGroup_80 : decode cX9_judgeGroup 80 = .ok (.aload_n 0, 1) := by decide +kernel
theorem dX9_judgeGroup_81 : decode cX9_judgeGroup 81 = .ok (.dup, 1) := by decide +kernel
theorem dX9_judgeGroup_82 : decode cX9_judgeGroup 82 = .ok (.getfield 42, 3) := by decide +kernel
theorem dX9_judgeGroup_85 : decode cX9_judgeGroup 85 = .ok (.aload_n 0, 1) := by decide +kernel
theorem dX9_judgeGroup_86 : decode cX9_judgeGroup 86 = .ok (.getfield 74, 3) := by decide +kernel
theorem dX9_judgeGroup_89 : decode cX9_judgeGroup 89 = .ok (.iload_n 1, 1) := by decide +kernel
theorem dX9_judgeGroup_90 : decode cX9_judgeGroup 90 = .ok (.isub, 1) := by decide +kernel
theorem dX9_judgeGroup_91 : decode cX9_judgeGroup 91 = .ok (.iadd, 1) := by decide +kernel
theorem dX9_judgeGroup_92 : decode cX9_judgeGroup 92 = .ok (.putfield 42, 3) := by decide +kernel
theorem dX9_judgeGroup_95 : decode cX9_judgeGroup 95 = .ok (.return_, 1) := by decide +kernel
theorem dX9_isNeeded_0 : decode cX9_isNeeded 0 = .ok (.iconst 0, 1) := by decide +kernel
theorem dX9_isNeeded_1 : decode cX9_isNeeded 1 = .ok (.istore_n 3, 1) := by decide +kernel
theorem dX9_isNeeded_2 : decode cX9_isNeeded 2 = .ok (.iload_n 3, 1) := by decide +kernel
theorem dX9_isNeeded_3 : decode cX9_isNeeded 3 = .ok (.aload_n 0, 1) := by decide +kernel
theorem dX9_isNeeded_4 : decode cX9_isNeeded 4 = .ok (.getfield 74, 3) := by decide +kernel
theorem dX9_isNeeded_7 : decode cX9_isNeeded 7 = .ok (.if_icmp .ge 50, 3) := by decide +kernel
theorem dX9_isNeeded_10 : decode cX9_isNeeded 10 = .ok (.iload_n 3, 1) := by decide +kernel
theorem dX9_isNeeded_11 : decode cX9_isNeeded 11 = .ok (.iload_n 1, 1) := by decide +kernel
theorem dX9_isNeeded_12 : decode cX9_isNeeded 12 = .ok (.if_icmp .eq 39, 3) := by decide +kernel
theorem dX9_isNeeded_15 : decode cX9_isNeeded 15 = .ok (.aload_n 0, 1) := by decide +kernel
theorem dX9_isNeeded_16 : decode cX9_isNeeded 16 = .ok (.getfield 17, 3) := by decide +kernel
theorem dX9_isNeeded_19 : decode cX9_isNeeded 19 = .ok (.iload_n 3, 1) := by decide +kernel
theorem dX9_isNeeded_20 : decode cX9_isNeeded 20 = .ok (.iaload, 1) := by decide +kernel
theorem dX9_isNeeded_21 : decode cX9_isNeeded 21 = .ok (.aload_n 0, 1) := by decide +kernel
theorem dX9_isNeeded_22 : decode cX9_isNeeded 22 = .ok (.getfield 17, 3) := by decide +kernel
theorem dX9_isNeeded_25 : decode cX9_isNeeded 25 = .ok (.iload_n 1, 1) := by decide +kernel
theorem dX9_isNeeded_26 : decode cX9_isNeeded 26 = .ok (.iaload, 1) := by decide +kernel
theorem dX9_isNeeded_27 : decode cX9_isNeeded 27 = .ok (.if_icmp .ne 24, 3) := by decide +kernel
theorem dX9_isNeeded_30 : decode cX9_isNeeded 30 = .ok (.aload_n 0, 1) := by decide +kernel
theorem dX9_isNeeded_31 : decode cX9_isNeeded 31 = .ok (.getfield 17, 3) := by decide +kernel
theorem dX9_isNeeded_34 : decode cX9_isNeeded 34 = .ok (.iload_n 3, 1) := by decide +kernel
theorem dX9_isNeeded_35 : decode cX9_isNeeded 35 = .ok (.iaload, 1) := by decide +kernel
theorem dX9_isNeeded_36 : decode cX9_isNeeded 36 = .ok (.aload_n 0, 1) := by decide +kernel
theorem dX9_isNeeded_37 : decode cX9_isNeeded 37 = .ok (.getfield 21, 3) := by decide +kernel
theorem dX9_isNeeded_40 : decode cX9_isNeeded 40 = .ok (.iload_n 3, 1) := by decide +kernel
theorem dX9_isNeeded_41 : decode cX9_isNeeded 41 = .ok (.iaload, 1) := by decide +kernel
theorem dX9_isNeeded_42 : decode cX9_isNeeded 42 = .ok (.iadd, 1) := by decide +kernel
theorem dX9_isNeeded_43 : decode cX9_isNeeded 43 = .ok (.iconst 1, 1) := by decide +kernel
theorem dX9_isNeeded_44 : decode cX9_isNeeded 44 = .ok (.isub, 1) := by decide +kernel
theorem dX9_isNeeded_45 : decode cX9_isNeeded 45 = .ok (.iload_n 2, 1) := by decide +kernel
theorem dX9_isNeeded_46 : decode cX9_isNeeded 46 = .ok (.if_icmp .ne 5, 3) := by decide +kernel
theorem dX9_isNeeded_49 : decode cX9_isNeeded 49 = .ok (.iconst 0, 1) := by decide +kernel
theorem dX9_isNeeded_50 : decode cX9_isNeeded 50 = .ok (.ireturn, 1) := by decide +kernel
theorem dX9_isNeeded_51 : decode cX9_isNeeded 51 = .ok (.iinc 3 1, 3) := by decide +kernel
theorem dX9_isNeeded_54 : decode cX9_isNeeded 54 = .ok (.goto (-52), 3) := by decide +kernel
theorem dX9_isNeeded_57 : decode cX9_isNeeded 57 = .ok (.iconst 1, 1) := by decide +kernel
theorem dX9_isNeeded_58 : decode cX9_isNeeded 58 = .ok (.ireturn, 1) := by decide +kernel
theorem dX9_longestUp_0 : decode cX9_longestUp 0 = .ok (.iconst 0, 1) := by decide +kernel
theorem dX9_longestUp_1 : decode cX9_longestUp 1 = .ok (.istore_n 1, 1) := by decide +kernel
theorem dX9_longestUp_2 : decode cX9_longestUp 2 = .ok (.iconst 0, 1) := by decide +kernel
theorem dX9_longestUp_3 : decode cX9_longestUp 3 = .ok (.istore_n 2, 1) := by decide +kernel
theorem dX9_longestUp_4 : decode cX9_longestUp 4 = .ok (.iload_n 2, 1) := by decide +kernel
theorem dX9_longestUp_5 : decode cX9_longestUp 5 = .ok (.aload_n 0, 1) := by decide +kernel
theorem dX9_longestUp_6 : decode cX9_longestUp 6 = .ok (.getfield 74, 3) := by decide +kernel
theorem dX9_longestUp_9 : decode cX9_longestUp 9 = .ok (.if_icmp .ge 119, 3) := by decide +kernel
theorem dX9_longestUp_12 : decode cX9_longestUp 12 = .ok (.aload_n 0, 1) := by decide +kernel
theorem dX9_longestUp_13 : decode cX9_longestUp 13 = .ok (.getfield 17, 3) := by decide +kernel
theorem dX9_longestUp_16 : decode cX9_longestUp 16 = .ok (.iload_n 2, 1) := by decide +kernel
theorem dX9_longestUp_17 : decode cX9_longestUp 17 = .ok (.aload_n 0, 1) := by decide +kernel
theorem dX9_longestUp_18 : decode cX9_longestUp 18 = .ok (.getfield 24, 3) := by decide +kernel
theorem dX9_longestUp_21 : decode cX9_longestUp 21 = .ok (.iload_n 2, 1) := by decide +kernel
theorem dX9_longestUp_22 : decode cX9_longestUp 22 = .ok (.baload, 1) := by decide +kernel
theorem dX9_longestUp_23 : decode cX9_longestUp 23 = .ok (.ifCond .eq 7, 3) := by decide +kernel
theorem dX9_longestUp_26 : decode cX9_longestUp 26 = .ok (.iconst 0, 1) := by decide +kernel
theorem dX9_longestUp_27 : decode cX9_longestUp 27 = .ok (.goto 4, 3) := by decide +kernel
theorem dX9_longestUp_30 : decode cX9_longestUp 30 = .ok (.iconst 1, 1) := by decide +kernel
theorem dX9_longestUp_31 : decode cX9_longestUp 31 = .ok (.iastore, 1) := by decide +kernel
theorem dX9_longestUp_32 : decode cX9_longestUp 32 = .ok (.iconst 0, 1) := by decide +kernel
theorem dX9_longestUp_33 : decode cX9_longestUp 33 = .ok (.istore_n 3, 1) := by decide +kernel
theorem dX9_longestUp_34 : decode cX9_longestUp 34 = .ok (.iload_n 3, 1) := by decide +kernel
theorem dX9_longestUp_35 : decode cX9_longestUp 35 = .ok (.iload_n 2, 1) := by decide +kernel
theorem dX9_longestUp_36 : decode cX9_longestUp 36 = .ok (.if_icmp .ge 75, 3) := by decide +kernel
theorem dX9_longestUp_39 : decode cX9_longestUp 39 = .ok (.aload_n 0, 1) := by decide +kernel
theorem dX9_longestUp_40 : decode cX9_longestUp 40 = .ok (.getfield 24, 3) := by decide +kernel
theorem dX9_longestUp_43 : decode cX9_longestUp 43 = .ok (.iload_n 2, 1) := by decide +kernel
theorem dX9_longestUp_44 : decode cX9_longestUp 44 = .ok (.baload, 1) := by decide +kernel
theorem dX9_longestUp_45 : decode cX9_longestUp 45 = .ok (.ifCond .ne 66, 3) := by decide +kernel
theorem dX9_longestUp_48 : decode cX9_longestUp 48 = .ok (.aload_n 0, 1) := by decide +kernel
theorem dX9_longestUp_49 : decode cX9_longestUp 49 = .ok (.getfield 24, 3) := by decide +kernel
theorem dX9_longestUp_52 : decode cX9_longestUp 52 = .ok (.iload_n 3, 1) := by decide +kernel
theorem dX9_longestUp_53 : decode cX9_longestUp 53 = .ok (.baload, 1) := by decide +kernel
theorem dX9_longestUp_54 : decode cX9_longestUp 54 = .ok (.ifCond .ne 51, 3) := by decide +kernel
theorem dX9_longestUp_57 : decode cX9_longestUp 57 = .ok (.aload_n 0, 1) := by decide +kernel
theorem dX9_longestUp_58 : decode cX9_longestUp 58 = .ok (.getfield 17, 3) := by decide +kernel
theorem dX9_longestUp_61 : decode cX9_longestUp 61 = .ok (.iload_n 3, 1) := by decide +kernel
theorem dX9_longestUp_62 : decode cX9_longestUp 62 = .ok (.iaload, 1) := by decide +kernel
theorem dX9_longestUp_63 : decode cX9_longestUp 63 = .ok (.aload_n 0, 1) := by decide +kernel
theorem dX9_longestUp_64 : decode cX9_longestUp 64 = .ok (.getfield 17, 3) := by decide +kernel
theorem dX9_longestUp_67 : decode cX9_longestUp 67 = .ok (.iload_n 2, 1) := by decide +kernel
theorem dX9_longestUp_68 : decode cX9_longestUp 68 = .ok (.iaload, 1) := by decide +kernel
theorem dX9_longestUp_69 : decode cX9_longestUp 69 = .ok (.if_icmp .lt 36, 3) := by decide +kernel
theorem dX9_longestUp_72 : decode cX9_longestUp 72 = .ok (.aload_n 0, 1) := by decide +kernel
theorem dX9_longestUp_73 : decode cX9_longestUp 73 = .ok (.aload_n 0, 1) := by decide +kernel
theorem dX9_longestUp_74 : decode cX9_longestUp 74 = .ok (.getfield 11, 3) := by decide +kernel
theorem dX9_longestUp_77 : decode cX9_longestUp 77 = .ok (.iload_n 3, 1) := by decide +kernel
theorem dX9_longestUp_78 : decode cX9_longestUp 78 = .ok (.aaload, 1) := by decide +kernel
theorem dX9_longestUp_79 : decode cX9_longestUp 79 = .ok (.aload_n 0, 1) := by decide +kernel
theorem dX9_longestUp_80 : decode cX9_longestUp 80 = .ok (.getfield 11, 3) := by decide +kernel
theorem dX9_longestUp_83 : decode cX9_longestUp 83 = .ok (.iload_n 2, 1) := by decide +kernel
theorem dX9_longestUp_84 : decode cX9_longestUp 84 = .ok (.aaload, 1) := by decide +kernel
theorem dX9_longestUp_85 : decode cX9_longestUp 85 = .ok (.invokevirtual 145, 3) := by decide +kernel
theorem dX9_longestUp_88 : decode cX9_longestUp 88 = .ok (.ifCond .eq 17, 3) := by decide +kernel
theorem dX9_longestUp_91 : decode cX9_longestUp 91 = .ok (.aload_n 0, 1) := by decide +kernel
theorem dX9_longestUp_92 : decode cX9_longestUp 92 = .ok (.getfield 17, 3) := by decide +kernel
theorem dX9_longestUp_95 : decode cX9_longestUp 95 = .ok (.iload_n 2, 1) := by decide +kernel
theorem dX9_longestUp_96 : decode cX9_longestUp 96 = .ok (.aload_n 0, 1) := by decide +kernel
theorem dX9_longestUp_97 : decode cX9_longestUp 97 = .ok (.getfield 17, 3) := by decide +kernel
theorem dX9_longestUp_100 : decode cX9_longestUp 100 = .ok (.iload_n 3, 1) := by decide +kernel
theorem dX9_longestUp_101 : decode cX9_longestUp 101 = .ok (.iaload, 1) := by decide +kernel
theorem dX9_longestUp_102 : decode cX9_longestUp 102 = .ok (.iconst 1, 1) := by decide +kernel
theorem dX9_longestUp_103 : decode cX9_longestUp 103 = .ok (.iadd, 1) := by decide +kernel
theorem dX9_longestUp_104 : decode cX9_longestUp 104 = .ok (.iastore, 1) := by decide +kernel
theorem dX9_longestUp_105 : decode cX9_longestUp 105 = .ok (.iinc 3 1, 3) := by decide +kernel
theorem dX9_longestUp_108 : decode cX9_longestUp 108 = .ok (.goto (-74), 3) := by decide +kernel
theorem dX9_longestUp_111 : decode cX9_longestUp 111 = .ok (.iload_n 1, 1) := by decide +kernel
theorem dX9_longestUp_112 : decode cX9_longestUp 112 = .ok (.aload_n 0, 1) := by decide +kernel
theorem dX9_longestUp_113 : decode cX9_longestUp 113 = .ok (.getfield 17, 3) := by decide +kernel
theorem dX9_longestUp_116 : decode cX9_longestUp 116 = .ok (.iload_n 2, 1) := by decide +kernel
theorem dX9_longestUp_117 : decode cX9_longestUp 117 = .ok (.iaload, 1) := by decide +kernel
theorem dX9_longestUp_118 : decode cX9_longestUp 118 = .ok (.invokestatic 149, 3) := by decide +kernel
theorem dX9_longestUp_121 : decode cX9_longestUp 121 = .ok (.istore_n 1, 1) := by decide +kernel
theorem dX9_longestUp_122 : decode cX9_longestUp 122 = .ok (.iinc 2 1, 3) := by decide +kernel
theorem dX9_longestUp_125 : decode cX9_longestUp 125 = .ok (.goto (-121), 3) := by decide +kernel
theorem dX9_longestUp_128 : decode cX9_longestUp 128 = .ok (.iload_n 1, 1) := by decide +kernel
theorem dX9_longestUp_129 : decode cX9_longestUp 129 = .ok (.ireturn, 1) := by decide +kernel
theorem dX9_workDown_0 : decode cX9_workDown 0 = .ok (.aload_n 0, 1) := by decide +kernel
theorem dX9_workDown_1 : decode cX9_workDown 1 = .ok (.getfield 74, 3) := by decide +kernel
theorem dX9_workDown_4 : decode cX9_workDown 4 = .ok (.iconst 1, 1) := by decide +kernel
theorem dX9_workDown_5 : decode cX9_workDown 5 = .ok (.isub, 1) := by decide +kernel
theorem dX9_workDown_6 : decode cX9_workDown 6 = .ok (.istore_n 1, 1) := by decide +kernel
theorem dX9_workDown_7 : decode cX9_workDown 7 = .ok (.iload_n 1, 1) := by decide +kernel
theorem dX9_workDown_8 : decode cX9_workDown 8 = .ok (.ifCond .lt 82, 3) := by decide +kernel
theorem dX9_workDown_11 : decode cX9_workDown 11 = .ok (.aload_n 0, 1) := by decide +kernel
theorem dX9_workDown_12 : decode cX9_workDown 12 = .ok (.getfield 21, 3) := by decide +kernel
theorem dX9_workDown_15 : decode cX9_workDown 15 = .ok (.iload_n 1, 1) := by decide +kernel
theorem dX9_workDown_16 : decode cX9_workDown 16 = .ok (.iconst 1, 1) := by decide +kernel
theorem dX9_workDown_17 : decode cX9_workDown 17 = .ok (.iastore, 1) := by decide +kernel
theorem dX9_workDown_18 : decode cX9_workDown 18 = .ok (.iload_n 1, 1) := by decide +kernel
theorem dX9_workDown_19 : decode cX9_workDown 19 = .ok (.iconst 1, 1) := by decide +kernel
theorem dX9_workDown_20 : decode cX9_workDown 20 = .ok (.iadd, 1) := by decide +kernel
theorem dX9_workDown_21 : decode cX9_workDown 21 = .ok (.istore_n 2, 1) := by decide +kernel
theorem dX9_workDown_22 : decode cX9_workDown 22 = .ok (.iload_n 2, 1) := by decide +kernel
theorem dX9_workDown_23 : decode cX9_workDown 23 = .ok (.aload_n 0, 1) := by decide +kernel
theorem dX9_workDown_24 : decode cX9_workDown 24 = .ok (.getfield 74, 3) := by decide +kernel
theorem dX9_workDown_27 : decode cX9_workDown 27 = .ok (.if_icmp .ge 57, 3) := by decide +kernel
theorem dX9_workDown_30 : decode cX9_workDown 30 = .ok (.aload_n 0, 1) := by decide +kernel
theorem dX9_workDown_31 : decode cX9_workDown 31 = .ok (.getfield 21, 3) := by decide +kernel
theorem dX9_workDown_34 : decode cX9_workDown 34 = .ok (.iload_n 2, 1) := by decide +kernel
theorem dX9_workDown_35 : decode cX9_workDown 35 = .ok (.iaload, 1) := by decide +kernel
theorem dX9_workDown_36 : decode cX9_workDown 36 = .ok (.aload_n 0, 1) := by decide +kernel
theorem dX9_workDown_37 : decode cX9_workDown 37 = .ok (.getfield 21, 3) := by decide +kernel
theorem dX9_workDown_40 : decode cX9_workDown 40 = .ok (.iload_n 1, 1) := by decide +kernel
theorem dX9_workDown_41 : decode cX9_workDown 41 = .ok (.iaload, 1) := by decide +kernel
theorem dX9_workDown_42 : decode cX9_workDown 42 = .ok (.if_icmp .lt 36, 3) := by decide +kernel
theorem dX9_workDown_45 : decode cX9_workDown 45 = .ok (.aload_n 0, 1) := by decide +kernel
theorem dX9_workDown_46 : decode cX9_workDown 46 = .ok (.aload_n 0, 1) := by decide +kernel
theorem dX9_workDown_47 : decode cX9_workDown 47 = .ok (.getfield 11, 3) := by decide +kernel
theorem dX9_workDown_50 : decode cX9_workDown 50 = .ok (.iload_n 1, 1) := by decide +kernel
theorem dX9_workDown_51 : decode cX9_workDown 51 = .ok (.aaload, 1) := by decide +kernel
theorem dX9_workDown_52 : decode cX9_workDown 52 = .ok (.aload_n 0, 1) := by decide +kernel
theorem dX9_workDown_53 : decode cX9_workDown 53 = .ok (.getfield 11, 3) := by decide +kernel
theorem dX9_workDown_56 : decode cX9_workDown 56 = .ok (.iload_n 2, 1) := by decide +kernel
theorem dX9_workDown_57 : decode cX9_workDown 57 = .ok (.aaload, 1) := by decide +kernel
theorem dX9_workDown_58 : decode cX9_workDown 58 = .ok (.invokevirtual 145, 3) := by decide +kernel
theorem dX9_workDown_61 : decode cX9_workDown 61 = .ok (.ifCond .eq 17, 3) := by decide +kernel
theorem dX9_workDown_64 : decode cX9_workDown 64 = .ok (.aload_n 0, 1) := by decide +kernel
theorem dX9_workDown_65 : decode cX9_workDown 65 = .ok (.getfield 21, 3) := by decide +kernel
theorem dX9_workDown_68 : decode cX9_workDown 68 = .ok (.iload_n 1, 1) := by decide +kernel
theorem dX9_workDown_69 : decode cX9_workDown 69 = .ok (.aload_n 0, 1) := by decide +kernel
theorem dX9_workDown_70 : decode cX9_workDown 70 = .ok (.getfield 21, 3) := by decide +kernel
theorem dX9_workDown_73 : decode cX9_workDown 73 = .ok (.iload_n 2, 1) := by decide +kernel
theorem dX9_workDown_74 : decode cX9_workDown 74 = .ok (.iaload, 1) := by decide +kernel
theorem dX9_workDown_75 : decode cX9_workDown 75 = .ok (.iconst 1, 1) := by decide +kernel
theorem dX9_workDown_76 : decode cX9_workDown 76 = .ok (.iadd, 1) := by decide +kernel
theorem dX9_workDown_77 : decode cX9_workDown 77 = .ok (.iastore, 1) := by decide +kernel
theorem dX9_workDown_78 : decode cX9_workDown 78 = .ok (.iinc 2 1, 3) := by decide +kernel
theorem dX9_workDown_81 : decode cX9_workDown 81 = .ok (.goto (-59), 3) := by decide +kernel
theorem dX9_workDown_84 : decode cX9_workDown 84 = .ok (.iinc 1 (-1), 3) := by decide +kernel
theorem dX9_workDown_87 : decode cX9_workDown 87 = .ok (.goto (-80), 3) := by decide +kernel
theorem dX9_workDown_90 : decode cX9_workDown 90 = .ok (.return_, 1) := by decide +kernel
theorem dX9_canBoth_0 : decode cX9_canBoth 0 = .ok (.aload_n 0, 1) := by decide +kernel
theorem dX9_canBoth_1 : decode cX9_canBoth 1 = .ok (.getfield 28, 3) := by decide +kernel
theorem dX9_canBoth_4 : decode cX9_canBoth 4 = .ok (.getfield 94, 3) := by decide +kernel
theorem dX9_canBoth_7 : decode cX9_canBoth 7 = .ok (.aload_n 1, 1) := by decide +kernel
theorem dX9_canBoth_8 : decode cX9_canBoth 8 = .ok (.getfield 98, 3) := by decide +kernel
theorem dX9_canBoth_11 : decode cX9_canBoth 11 = .ok (.aaload, 1) := by decide +kernel
theorem dX9_canBoth_12 : decode cX9_canBoth 12 = .ok (.getfield 155, 3) := by decide +kernel
theorem dX9_canBoth_15 : decode cX9_canBoth 15 = .ok (.aload_n 0, 1) := by decide +kernel
theorem dX9_canBoth_16 : decode cX9_canBoth 16 = .ok (.getfield 28, 3) := by decide +kernel
theorem dX9_canBoth_19 : decode cX9_canBoth 19 = .ok (.getfield 94, 3) := by decide +kernel
theorem dX9_canBoth_22 : decode cX9_canBoth 22 = .ok (.aload_n 2, 1) := by decide +kernel
theorem dX9_canBoth_23 : decode cX9_canBoth 23 = .ok (.getfield 98, 3) := by decide +kernel
theorem dX9_canBoth_26 : decode cX9_canBoth 26 = .ok (.aaload, 1) := by decide +kernel
theorem dX9_canBoth_27 : decode cX9_canBoth 27 = .ok (.getfield 155, 3) := by decide +kernel
theorem dX9_canBoth_30 : decode cX9_canBoth 30 = .ok (.invokevirtual 159, 3) := by decide +kernel
theorem dX9_canBoth_33 : decode cX9_canBoth 33 = .ok (.istore_n 3, 1) := by decide +kernel
theorem dX9_canBoth_34 : decode cX9_canBoth 34 = .ok (.aload_n 2, 1) := by decide +kernel
theorem dX9_canBoth_35 : decode cX9_canBoth 35 = .ok (.getfield 101, 3) := by decide +kernel
theorem dX9_canBoth_38 : decode cX9_canBoth 38 = .ok (.aload_n 1, 1) := by decide +kernel
theorem dX9_canBoth_39 : decode cX9_canBoth 39 = .ok (.invokevirtual 109, 3) := by decide +kernel
theorem dX9_canBoth_42 : decode cX9_canBoth 42 = .ok (.aload_n 0, 1) := by decide +kernel
theorem dX9_canBoth_43 : decode cX9_canBoth 43 = .ok (.getfield 28, 3) := by decide +kernel
theorem dX9_canBoth_46 : decode cX9_canBoth 46 = .ok (.getfield 165, 3) := by decide +kernel
theorem dX9_canBoth_49 : decode cX9_canBoth 49 = .ok (.iload_n 3, 1) := by decide +kernel
theorem dX9_canBoth_50 : decode cX9_canBoth 50 = .ok (.imul, 1) := by decide +kernel
theorem dX9_canBoth_51 : decode cX9_canBoth 51 = .ok (.iadd, 1) := by decide +kernel
theorem dX9_canBoth_52 : decode cX9_canBoth 52 = .ok (.if_icmp .lt 7, 3) := by decide +kernel
theorem dX9_canBoth_55 : decode cX9_canBoth 55 = .ok (.iconst 1, 1) := by decide +kernel
theorem dX9_canBoth_56 : decode cX9_canBoth 56 = .ok (.goto 4, 3) := by decide +kernel
theorem dX9_canBoth_59 : decode cX9_canBoth 59 = .ok (.iconst 0, 1) := by decide +kernel
theorem dX9_canBoth_60 : decode cX9_canBoth 60 = .ok (.ireturn, 1) := by decide +kernel
theorem dX10_init_0 : decode cX10_init 0 = .ok (.aload_n 0, 1) := by decide +kernel
theorem dX10_init_1 : decode cX10_init 1 = .ok (.invokespecial 3, 3) := by decide +kernel
theorem dX10_init_4 : decode cX10_init 4 = .ok (.aload_n 0, 1) := by decide +kernel
theorem dX10_init_5 : decode cX10_init 5 = .ok (.iload_n 1, 1) := by decide +kernel
theorem dX10_init_6 : decode cX10_init 6 = .ok (.putfield 9, 3) := by decide +kernel
theorem dX10_init_9 : decode cX10_init 9 = .ok (.aload_n 0, 1) := by decide +kernel
theorem dX10_init_10 : decode cX10_init 10 = .ok (.iload_n 2, 1) := by decide +kernel
theorem dX10_init_11 : decode cX10_init 11 = .ok (.putfield 15, 3) := by decide +kernel
theorem dX10_init_14 : decode cX10_init 14 = .ok (.return_, 1) := by decide +kernel
theorem dX10_goes_0 : decode cX10_goes 0 = .ok (.aload_n 0, 1) := by decide +kernel
theorem dX10_goes_1 : decode cX10_goes 1 = .ok (.iload_n 1, 1) := by decide +kernel
theorem dX10_goes_2 : decode cX10_goes 2 = .ok (.putfield 18, 3) := by decide +kernel
theorem dX10_goes_5 : decode cX10_goes 5 = .ok (.aload_n 0, 1) := by decide +kernel
theorem dX10_goes_6 : decode cX10_goes 6 = .ok (.iload_n 2, 1) := by decide +kernel
theorem dX10_goes_7 : decode cX10_goes 7 = .ok (.putfield 21, 3) := by decide +kernel
theorem dX10_goes_10 : decode cX10_goes 10 = .ok (.aload_n 0, 1) := by decide +kernel
theorem dX10_goes_11 : decode cX10_goes 11 = .ok (.iload_n 3, 1) := by decide +kernel
theorem dX10_goes_12 : decode cX10_goes 12 = .ok (.putfield 24, 3) := by decide +kernel
theorem dX10_goes_15 : decode cX10_goes 15 = .ok (.aload_n 0, 1) := by decide +kernel
theorem dX10_goes_16 : decode cX10_goes 16 = .ok (.iload 4, 2) := by decide +kernel
theorem dX10_goes_18 : decode cX10_goes 18 = .ok (.putfield 27, 3) := by decide +kernel
theorem dX10_goes_21 : decode cX10_goes 21 = .ok (.aload_n 0, 1) := by decide +kernel
theorem dX10_goes_22 : decode cX10_goes 22 = .ok (.iload 5, 2) := by decide +kernel
theorem dX10_goes_24 : decode cX10_goes 24 = .ok (.putfield 30, 3) := by decide +kernel
theorem dX10_goes_27 : decode cX10_goes 27 = .ok (.return_, 1) := by decide +kernel
theorem dX10_tells_0 : decode cX10_tells 0 = .ok (.aload_n 0, 1) := by decide +kernel
theorem dX10_tells_1 : decode cX10_tells 1 = .ok (.iload_n 1, 1) := by decide +kernel
theorem dX10_tells_2 : decode cX10_tells 2 = .ok (.putfield 33, 3) := by decide +kernel
theorem dX10_tells_5 : decode cX10_tells 5 = .ok (.aload_n 0, 1) := by decide +kernel
theorem dX10_tells_6 : decode cX10_tells 6 = .ok (.iload_n 1, 1) := by decide +kernel
theorem dX10_tells_7 : decode cX10_tells 7 = .ok (.putfield 36, 3) := by decide +kernel
theorem dX10_tells_10 : decode cX10_tells 10 = .ok (.aload_n 0, 1) := by decide +kernel
theorem dX10_tells_11 : decode cX10_tells 11 = .ok (.iload_n 2, 1) := by decide +kernel
theorem dX10_tells_12 : decode cX10_tells 12 = .ok (.putfield 39, 3) := by decide +kernel
theorem dX10_tells_15 : decode cX10_tells 15 = .ok (.return_, 1) := by decide +kernel
theorem dX10_counts_0 : decode cX10_counts 0 = .ok (.aload_n 0, 1) := by decide +kernel
theorem dX10_counts_1 : decode cX10_counts 1 = .ok (.getfield 42, 3) := by decide +kernel
theorem dX10_counts_4 : decode cX10_counts 4 = .ok (.ifCond .eq 11, 3) := by decide +kernel
theorem dX10_counts_7 : decode cX10_counts 7 = .ok (.aload_n 0, 1) := by decide +kernel
theorem dX10_counts_8 : decode cX10_counts 8 = .ok (.getfield 42, 3) := by decide +kernel
theorem dX10_counts_11 : decode cX10_counts 11 = .ok (.iconst 3, 1) := by decide +kernel
theorem dX10_counts_12 : decode cX10_counts 12 = .ok (.if_icmp .ne 7, 3) := by decide +kernel
theorem dX10_counts_15 : decode cX10_counts 15 = .ok (.iconst 1, 1) := by decide +kernel
theorem dX10_counts_16 : decode cX10_counts 16 = .ok (.goto 4, 3) := by decide +kernel
theorem dX10_counts_19 : decode cX10_counts 19 = .ok (.iconst 0, 1) := by decide +kernel
theorem dX10_counts_20 : decode cX10_counts 20 = .ok (.ireturn, 1) := by decide +kernel
theorem dX10_endMinute_0 : decode cX10_endMinute 0 = .ok (.aload_n 0, 1) := by decide +kernel
theorem dX10_endMinute_1 : decode cX10_endMinute 1 = .ok (.getfield 27, 3) := by decide +kernel
theorem dX10_endMinute_4 : decode cX10_endMinute 4 = .ok (.aload_n 0, 1) := by decide +kernel
theorem dX10_endMinute_5 : decode cX10_endMinute 5 = .ok (.getfield 30, 3) := by decide +kernel
theorem dX10_endMinute_8 : decode cX10_endMinute 8 = .ok (.iadd, 1) := by decide +kernel
theorem dX10_endMinute_9 : decode cX10_endMinute 9 = .ok (.ireturn, 1) := by decide +kernel
theorem dX10_inWeek_0 : decode cX10_inWeek 0 = .ok (.aload_n 0, 1) := by decide +kernel
theorem dX10_inWeek_1 : decode cX10_inWeek 1 = .ok (.getfield 24, 3) := by decide +kernel
theorem dX10_inWeek_4 : decode cX10_inWeek 4 = .ok (.bipush 7, 2) := by decide +kernel
theorem dX10_inWeek_6 : decode cX10_inWeek 6 = .ok (.idiv, 1) := by decide +kernel
theorem dX10_inWeek_7 : decode cX10_inWeek 7 = .ok (.ireturn, 1) := by decide +kernel
theorem dX11_init_0 : decode cX11_init 0 = .ok (.aload_n 0, 1) := by decide +kernel
theorem dX11_init_1 : decode cX11_init 1 = .ok (.invokespecial 1, 3) := by decide +kernel
theorem dX11_init_4 : decode cX11_init 4 = .ok (.aload_n 0, 1) := by decide +kernel
theorem dX11_init_5 : decode cX11_init 5 = .ok (.new 7, 3) := by decide +kernel
theorem dX11_init_8 : decode cX11_init 8 = .ok (.dup, 1) := by decide +kernel
theorem dX11_init_9 : decode cX11_init 9 = .ok (.invokespecial 9, 3) := by decide +kernel
theorem dX11_init_12 : decode cX11_init 12 = .ok (.putfield 10, 3) := by decide +kernel
theorem dX11_init_15 : decode cX11_init 15 = .ok (.aload_n 0, 1) := by decide +kernel
theorem dX11_init_16 : decode cX11_init 16 = .ok (.new 16, 3) := by decide +kernel
theorem dX11_init_19 : decode cX11_init 19 = .ok (.dup, 1) := by decide +kernel
theorem dX11_init_20 : decode cX11_init 20 = .ok (.invokespecial 18, 3) := by decide +kernel
theorem dX11_init_23 : decode cX11_init 23 = .ok (.putfield 19, 3) := by decide +kernel
theorem dX11_init_26 : decode cX11_init 26 = .ok (.aload_n 0, 1) := by decide +kernel
theorem dX11_init_27 : decode cX11_init 27 = .ok (.new 23, 3) := by decide +kernel
theorem dX11_init_30 : decode cX11_init 30 = .ok (.dup, 1) := by decide +kernel
theorem dX11_init_31 : decode cX11_init 31 = .ok (.aload_n 0, 1) := by decide +kernel
theorem dX11_init_32 : decode cX11_init 32 = .ok (.getfield 19, 3) := by decide +kernel
theorem dX11_init_35 : decode cX11_init 35 = .ok (.invokespecial 25, 3) := by decide +kernel
theorem dX11_init_38 : decode cX11_init 38 = .ok (.putfield 28, 3) := by decide +kernel
theorem dX11_init_41 : decode cX11_init 41 = .ok (.aload_n 0, 1) := by decide +kernel
theorem dX11_init_42 : decode cX11_init 42 = .ok (.new 32, 3) := by decide +kernel
theorem dX11_init_45 : decode cX11_init 45 = .ok (.dup, 1) := by decide +kernel
theorem dX11_init_46 : decode cX11_init 46 = .ok (.aload_n 0, 1) := by decide +kernel
theorem dX11_init_47 : decode cX11_init 47 = .ok (.getfield 10, 3) := by decide +kernel
theorem dX11_init_50 : decode cX11_init 50 = .ok (.invokespecial 34, 3) := by decide +kernel
theorem dX11_init_53 : decode cX11_init 53 = .ok (.putfield 37, 3) := by decide +kernel
theorem dX11_init_56 : decode cX11_init 56 = .ok (.aload_n 0, 1) := by decide +kernel
theorem dX11_init_57 : decode cX11_init 57 = .ok (.new 41, 3) := by decide +kernel
theorem dX11_init_60 : decode cX11_init 60 = .ok (.dup, 1) := by decide +kernel
theorem dX11_init_61 : decode cX11_init 61 = .ok (.aload_n 0, 1) := by decide +kernel
theorem dX11_init_62 : decode cX11_init 62 = .ok (.getfield 10, 3) := by decide +kernel
theorem dX11_init_65 : decode cX11_init 65 = .ok (.invokespecial 43, 3) := by decide +kernel
theorem dX11_init_68 : decode cX11_init 68 = .ok (.putfield 44, 3) := by decide +kernel
theorem dX11_init_71 : decode cX11_init 71 = .ok (.aload_n 0, 1) := by decide +kernel
theorem dX11_init_72 : decode cX11_init 72 = .ok (.new 48, 3) := by decide +kernel
theorem dX11_init_75 : decode cX11_init 75 = .ok (.dup, 1) := by decide +kernel
theorem dX11_init_76 : decode cX11_init 76 = .ok (.aload_n 0, 1) := by decide +kernel
theorem dX11_init_77 : decode cX11_init 77 = .ok (.getfield 10, 3) := by decide +kernel
theorem dX11_init_80 : decode cX11_init 80 = .ok (.aload_n 0, 1) := by decide +kernel
theorem dX11_init_81 : decode cX11_init 81 = .ok (.getfield 37, 3) := by decide +kernel
theorem dX11_init_84 : decode cX11_init 84 = .ok (.aload_n 0, 1) := by decide +kernel
theorem dX11_init_85 : decode cX11_init 85 = .ok (.getfield 44, 3) := by decide +kernel
theorem dX11_init_88 : decode cX11_init 88 = .ok (.invokespecial 50, 3) := by decide +kernel
theorem dX11_init_91 : decode cX11_init 91 = .ok (.putfield 53, 3) := by decide +kernel
theorem dX11_init_94 : decode cX11_init 94 = .ok (.aload_n 0, 1) := by decide +kernel
theorem dX11_init_95 : decode cX11_init 95 = .ok (.new 57, 3) := by decide +kernel
theorem dX11_init_98 : decode cX11_init 98 = .ok (.dup, 1) := by decide +kernel
theorem dX11_init_99 : decode cX11_init 99 = .ok (.aload_n 0, 1) := by decide +kernel
theorem dX11_init_100 : decode cX11_init 100 = .ok (.getfield 10, 3) := by decide +kernel
theorem dX11_init_103 : decode cX11_init 103 = .ok (.invokespecial 59, 3) := by decide +kernel
theorem dX11_init_106 : decode cX11_init 106 = .ok (.putfield 60, 3) := by decide +kernel
theorem dX11_init_109 : decode cX11_init 109 = .ok (.aload_n 0, 1) := by decide +kernel
theorem dX11_init_110 : decode cX11_init 110 = .ok (.bipush 20, 2) := by decide +kernel
theorem dX11_init_112 : decode cX11_init 112 = .ok (.putfield 64, 3) := by decide +kernel
theorem dX11_init_115 : decode cX11_init 115 = .ok (.aload_n 0, 1) := by decide +kernel
theorem dX11_init_116 : decode cX11_init 116 = .ok (.bipush 60, 2) := by decide +kernel
theorem dX11_init_118 : decode cX11_init 118 = .ok (.putfield 68, 3) := by decide +kernel
theorem dX11_init_121 : decode cX11_init 121 = .ok (.return_, 1) := by decide +kernel
theorem dX11_days_0 : decode cX11_days 0 = .ok (.iload_n 1, 1) := by decide +kernel
theorem dX11_days_1 : decode cX11_days 1 = .ok (.iconst 0, 1) := by decide +kernel
theorem dX11_days_2 : decode cX11_days 2 = .ok (.sipush 1000, 3) := by decide +kernel
theorem dX11_days_5 : decode cX11_days 5 = .ok (.invokestatic 71, 3) := by decide +kernel
theorem dX11_days_8 : decode cX11_days 8 = .ok (.ifCond .eq 18, 3) := by decide +kernel
theorem dX11_days_11 : decode cX11_days 11 = .ok (.aload_n 0, 1) := by decide +kernel
theorem dX11_days_12 : decode cX11_days 12 = .ok (.getfield 10, 3) := by decide +kernel
theorem dX11_days_15 : decode cX11_days 15 = .ok (.getfield 75, 3) := by decide +kernel
theorem dX11_days_18 : decode cX11_days 18 = .ok (.iload_n 1, 1) := by decide +kernel
theorem dX11_days_19 : decode cX11_days 19 = .ok (.iadd, 1) := by decide +kernel
theorem dX11_days_20 : decode cX11_days 20 = .ok (.sipush 9999, 3) := by decide +kernel
theorem dX11_days_23 : decode cX11_days 23 = .ok (.if_icmp .le 5, 3) := by decide +kernel
theorem dX11_days_26 : decode cX11_days 26 = .ok (.iconst (-1), 1) := by decide +kernel
theorem dX11_days_27 : decode cX11_days 27 = .ok (.ireturn, 1) := by decide +kernel
theorem dX11_days_28 : decode cX11_days 28 = .ok (.aload_n 0, 1) := by decide +kernel
theorem dX11_days_29 : decode cX11_days 29 = .ok (.getfield 10, 3) := by decide +kernel
theorem dX11_days_32 : decode cX11_days 32 = .ok (.dup, 1) := by decide +kernel
theorem dX11_days_33 : decode cX11_days 33 = .ok (.getfield 75, 3) := by decide +kernel
theorem dX11_days_36 : decode cX11_days 36 = .ok (.iload_n 1, 1) := by decide +kernel
theorem dX11_days_37 : decode cX11_days 37 = .ok (.iadd, 1) := by decide +kernel
theorem dX11_days_38 : decode cX11_days 38 = .ok (.putfield 75, 3) := by decide +kernel
theorem dX11_days_41 : decode cX11_days 41 = .ok (.aload_n 0, 1) := by decide +kernel
theorem dX11_days_42 : decode cX11_days 42 = .ok (.getfield 10, 3) := by decide +kernel
theorem dX11_days_45 : decode cX11_days 45 = .ok (.getfield 75, 3) := by decide +kernel
theorem dX11_days_48 : decode cX11_days 48 = .ok (.ireturn, 1) := by decide +kernel
theorem dX11_view_0 : decode cX11_view 0 = .ok (.iload_n 1, 1) := by decide +kernel
theorem dX11_view_1 : decode cX11_view 1 = .ok (.iconst 0, 1) := by decide +kernel
theorem dX11_view_2 : decode cX11_view 2 = .ok (.aload_n 0, 1) := by decide +kernel
theorem dX11_view_3 : decode cX11_view 3 = .ok (.getfield 10, 3) := by decide +kernel
theorem dX11_view_6 : decode cX11_view 6 = .ok (.getfield 75, 3) := by decide +kernel
theorem dX11_view_9 : decode cX11_view 9 = .ok (.invokestatic 71, 3) := by decide +kernel
theorem dX11_view_12 : decode cX11_view 12 = .ok (.ifCond .ne 5, 3) := by decide +kernel
theorem dX11_view_15 : decode cX11_view 15 = .ok (.iconst 0, 1) := by decide +kernel
theorem dX11_view_16 : decode cX11_view 16 = .ok (.ireturn, 1) := by decide +kernel
theorem dX11_view_17 : decode cX11_view 17 = .ok (.aload_n 0, 1) := by decide +kernel
theorem dX11_view_18 : decode cX11_view 18 = .ok (.getfield 10, 3) := by decide +kernel
theorem dX11_view_21 : decode cX11_view 21 = .ok (.iload_n 1, 1) := by decide +kernel
theorem dX11_view_22 : decode cX11_view 22 = .ok (.invokevirtual 78, 3) := by decide +kernel
theorem dX11_view_25 : decode cX11_view 25 = .ok (.iconst 1, 1) := by decide +kernel
theorem dX11_view_26 : decode cX11_view 26 = .ok (.ireturn, 1) := by decide +kernel
theorem dX11_shop_0 : decode cX11_shop 0 = .ok (.iload_n 1, 1) := by decide +kernel
theorem dX11_shop_1 : decode cX11_shop 1 = .ok (.iload_n 2, 1) := by decide +kernel
theorem dX11_shop_2 : decode cX11_shop 2 = .ok (.invokestatic 82, 3) := by decide +kernel
theorem dX11_shop_5 : decode cX11_shop 5 = .ok (.ifCond .eq 33, 3) := by decide +kernel
theorem dX11_shop_8 : decode cX11_shop 8 = .ok (.iload_n 3, 1) := by decide +kernel
theorem dX11_shop_9 : decode cX11_shop 9 = .ok (.invokestatic 86, 3) := by decide +kernel
theorem dX11_shop_12 : decode cX11_shop 12 = .ok (.ifCond .eq 26, 3) := by decide +kernel
theorem dX11_shop_15 : decode cX11_shop 15 = .ok (.iload 4, 2) := by decide +kernel
theorem dX11_shop_17 : decode cX11_shop 17 = .ok (.invokestatic 90, 3) := by decide +kernel
theorem dX11_shop_20 : decode cX11_shop 20 = .ok (.ifCond .eq 18, 3) := by decide +kernel
theorem dX11_shop_23 : decode cX11_shop 23 = .ok (.iload 5, 2) := by decide +kernel
theorem dX11_shop_25 : decode cX11_shop 25 = .ok (.invokestatic 90, 3) := by decide +kernel
theorem dX11_shop_28 : decode cX11_shop 28 = .ok (.ifCond .eq 10, 3) := by decide +kernel
theorem dX11_shop_31 : decode cX11_shop 31 = .ok (.iload 4, 2) := by decide +kernel
theorem dX11_shop_33 : decode cX11_shop 33 = .ok (.iload 5, 2) := by decide +kernel
theorem dX11_shop_35 : decode cX11_shop 35 = .ok (.if_icmp .le 5, 3) := by decide +kernel
theorem dX11_shop_38 : decode cX11_shop 38 = .ok (.iconst (-1), 1) := by decide +kernel
theorem dX11_shop_39 : decode cX11_shop 39 = .ok (.ireturn, 1) := by decide +kernel
theorem dX11_shop_40 : decode cX11_shop 40 = .ok (.aload_n 0, 1) := by decide +kernel
theorem dX11_shop_41 : decode cX11_shop 41 = .ok (.getfield 10, 3) := by decide +kernel
theorem dX11_shop_44 : decode cX11_shop 44 = .ok (.getfield 93, 3) := by decide +kernel
theorem dX11_shop_47 : decode cX11_shop 47 = .ok (.bipush 20, 2) := by decide +kernel
theorem dX11_shop_49 : decode cX11_shop 49 = .ok (.if_icmp .lt 5, 3) := by decide +kernel
theorem dX11_shop_52 : decode cX11_shop 52 = .ok (.iconst (-1), 1) := by decide +kernel
theorem dX11_shop_53 : decode cX11_shop 53 = .ok (.ireturn, 1) := by decide +kernel
theorem dX11_shop_54 : decode cX11_shop 54 = .ok (.aload_n 0, 1) := by decide +kernel
theorem dX11_shop_55 : decode cX11_shop 55 = .ok (.getfield 10, 3) := by decide +kernel
theorem dX11_shop_58 : decode cX11_shop 58 = .ok (.getfield 96, 3) := by decide +kernel
theorem dX11_shop_61 : decode cX11_shop 61 = .ok (.aload_n 0, 1) := by decide +kernel
theorem dX11_shop_62 : decode cX11_shop 62 = .ok (.getfield 10, 3) := by decide +kernel
theorem dX11_shop_65 : decode cX11_shop 65 = .ok (.getfield 93, 3) := by decide +kernel
theorem dX11_shop_68 : decode cX11_shop 68 = .ok (.new 100, 3) := by decide +kernel
theorem dX11_shop_71 : decode cX11_shop 71 = .ok (.dup, 1) := by decide +kernel
theorem dX11_shop_72 : decode cX11_shop 72 = .ok (.new 102, 3) := by decide +kernel
theorem dX11_shop_75 : decode cX11_shop 75 = .ok (.dup, 1) := by decide +kernel
theorem dX11_shop_76 : decode cX11_shop 76 = .ok (.iload_n 1, 1) := by decide +kernel
theorem dX11_shop_77 : decode cX11_shop 77 = .ok (.iload_n 2, 1) := by decide +kernel
theorem dX11_shop_78 : decode cX11_shop 78 = .ok (.invokespecial 104, 3) := by decide +kernel
theorem dX11_shop_81 : decode cX11_shop 81 = .ok (.iload_n 3, 1) := by decide +kernel
theorem dX11_shop_82 : decode cX11_shop 82 = .ok (.iload 4, 2) := by decide +kernel
theorem dX11_shop_84 : decode cX11_shop 84 = .ok (.iload 5, 2) := by decide +kernel
theorem dX11_shop_86 : decode cX11_shop 86 = .ok (.iload 6, 2) := by decide +kernel
theorem dX11_shop_88 : decode cX11_shop 88 = .ok (.invokespecial 107, 3) := by decide +kernel
theorem dX11_shop_91 : decode cX11_shop 91 = .ok (.aastore, 1) := by decide +kernel
theorem dX11_shop_92 : decode cX11_shop 92 = .ok (.aload_n 0, 1) := by decide +kernel
theorem dX11_shop_93 : decode cX11_shop 93 = .ok (.getfield 10, 3) := by decide +kernel
theorem dX11_shop_96 : decode cX11_shop 96 = .ok (.dup, 1) := by decide +kernel
theorem dX11_shop_97 : decode cX11_shop 97 = .ok (.getfield 93, 3) := by decide +kernel
theorem dX11_shop_100 : decode cX11_shop 100 = .ok (.iconst 1, 1) := by decide +kernel
theorem dX11_shop_101 : decode cX11_shop 101 = .ok (.iadd, 1) := by decide +kernel
theorem dX11_shop_102 : decode cX11_shop 102 = .ok (.putfield 93, 3) := by decide +kernel
theorem dX11_shop_105 : decode cX11_shop 105 = .ok (.aload_n 0, 1) := by decide +kernel
theorem dX11_shop_106 : decode cX11_shop 106 = .ok (.getfield 10, 3) := by decide +kernel
theorem dX11_shop_109 : decode cX11_shop 109 = .ok (.getfield 93, 3) := by decide +kernel
theorem dX11_shop_112 : decode cX11_shop 112 = .ok (.iconst 1, 1) := by decide +kernel
theorem dX11_shop_113 : decode cX11_shop 113 = .ok (.isub, 1) := by decide +kernel
theorem dX11_shop_114 : decode cX11_shop 114 = .ok (.ireturn, 1) := by decide +kernel
theorem dX11_buyer_0 : decode cX11_buyer 0 = .ok (.iload_n 1, 1) := by decide +kernel
theorem dX11_buyer_1 : decode cX11_buyer 1 = .ok (.iload_n 2, 1) := by decide +kernel
theorem dX11_buyer_2 : decode cX11_buyer 2 = .ok (.invokestatic 82, 3) := by decide +kernel
theorem dX11_buyer_5 : decode cX11_buyer 5 = .ok (.ifCond .eq 15, 3) := by decide +kernel
theorem dX11_buyer_8 : decode cX11_buyer 8 = .ok (.aload_n 0, 1) := by decide +kernel
theorem dX11_buyer_9 : decode cX11_buyer 9 = .ok (.getfield 10, 3) := by decide +kernel
theorem dX11_buyer_12 : decode cX11_buyer 12 = .ok (.getfield 110, 3) := by decide +kernel
theorem dX11_buyer_15 : decode cX11_buyer 15 = .ok (.bipush 8, 2) := by decide +kernel
theorem dX11_buyer_17 : decode cX11_buyer 17 = .ok (.if_icmp .lt 5, 3) := by decide +kernel
theorem dX11_buyer_20 : decode cX11_buyer 20 = .ok (.iconst (-1), 1) := by decide +kernel
theorem dX11_buyer_21 : decode cX11_buyer 21 = .ok (.ireturn, 1) := by decide +kernel
theorem dX11_buyer_22 : decode cX11_buyer 22 = .ok (.aload_n 0, 1) := by decide +kernel
theorem dX11_buyer_23 : decode cX11_buyer 23 = .ok (.getfield 10, 3) := by decide +kernel
theorem dX11_buyer_26 : decode cX11_buyer 26 = .ok (.getfield 113, 3) := by decide +kernel
theorem dX11_buyer_29 : decode cX11_buyer 29 = .ok (.aload_n 0, 1) := by decide +kernel
theorem dX11_buyer_30 : decode cX11_buyer 30 = .ok (.getfield 10, 3) := by decide +kernel
theorem dX11_buyer_33 : decode cX11_buyer 33 = .ok (.getfield 110, 3) := by decide +kernel
theorem dX11_buyer_36 : decode cX11_buyer 36 = .ok (.new 102, 3) := by decide +kernel
theorem dX11_buyer_39 : decode cX11_buyer 39 = .ok (.dup, 1) := by decide +kernel
theorem dX11_buyer_40 : decode cX11_buyer 40 = .ok (.iload_n 1, 1) := by decide +kernel
theorem dX11_buyer_41 : decode cX11_buyer 41 = .ok (.iload_n 2, 1) := by decide +kernel
theorem dX11_buyer_42 : decode cX11_buyer 42 = .ok (.invokespecial 104, 3) := by decide +kernel
theorem dX11_buyer_45 : decode cX11_buyer 45 = .ok (.aastore, 1) := by decide +kernel
theorem dX11_buyer_46 : decode cX11_buyer 46 = .ok (.aload_n 0, 1) := by decide +kernel
theorem dX11_buyer_47 : decode cX11_buyer 47 = .ok (.getfield 10, 3) := by decide +kernel
theorem dX11_buyer_50 : decode cX11_buyer 50 = .ok (.dup, 1) := by decide +kernel
theorem dX11_buyer_51 : decode cX11_buyer 51 = .ok (.getfield 110, 3) := by decide +kernel
theorem dX11_buyer_54 : decode cX11_buyer 54 = .ok (.iconst 1, 1) := by decide +kernel
theorem dX11_buyer_55 : decode cX11_buyer 55 = .ok (.iadd, 1) := by decide +kernel
theorem dX11_buyer_56 : decode cX11_buyer 56 = .ok (.putfield 110, 3) := by decide +kernel
theorem dX11_buyer_59 : decode cX11_buyer 59 = .ok (.aload_n 0, 1) := by decide +kernel
theorem dX11_buyer_60 : decode cX11_buyer 60 = .ok (.getfield 10, 3) := by decide +kernel
theorem dX11_buyer_63 : decode cX11_buyer 63 = .ok (.getfield 110, 3) := by decide +kernel
theorem dX11_buyer_66 : decode cX11_buyer 66 = .ok (.iconst 1, 1) := by decide +kernel
theorem dX11_buyer_67 : decode cX11_buyer 67 = .ok (.isub, 1) := by decide +kernel
theorem dX11_buyer_68 : decode cX11_buyer 68 = .ok (.ireturn, 1) := by decide +kernel
theorem dX11_terms_0 : decode cX11_terms 0 = .ok (.iload_n 1, 1) := by decide +kernel
theorem dX11_terms_1 : decode cX11_terms 1 = .ok (.iconst 1, 1) := by decide +kernel
theorem dX11_terms_2 : decode cX11_terms 2 = .ok (.bipush 60, 2) := by decide +kernel
theorem dX11_terms_4 : decode cX11_terms 4 = .ok (.invokestatic 71, 3) := by decide +kernel
theorem dX11_terms_7 : decode cX11_terms 7 = .ok (.ifCond .eq 25, 3) := by decide +kernel
theorem dX11_terms_10 : decode cX11_terms 10 = .ok (.iload_n 2, 1) := by decide +kernel
theorem dX11_terms_11 : decode cX11_terms 11 = .ok (.iconst 0, 1) := by decide +kernel
theorem dX11_terms_12 : decode cX11_terms 12 = .ok (.sipush 999, 3) := by decide +kernel
theorem dX11_terms_15 : decode cX11_terms 15 = .ok (.invokestatic 71, 3) := by decide +kernel
theorem dX11_terms_18 : decode cX11_terms 18 = .ok (.ifCond .eq 14, 3) := by decide +kernel
theorem dX11_terms_21 : decode cX11_terms 21 = .ok (.iload_n 3, 1) := by decide +kernel
theorem dX11_terms_22 : decode cX11_terms 22 = .ok (.iconst 0, 1) := by decide +kernel
theorem dX11_terms_23 : decode cX11_terms 23 = .ok (.sipush 1000, 3) := by decide +kernel
theorem dX11_terms_26 : decode cX11_terms 26 = .ok (.invokestatic 71, 3) := by decide +kernel
theorem dX11_terms_29 : decode cX11_terms 29 = .ok (.ifCond .ne 5, 3) := by decide +kernel
theorem dX11_terms_32 : decode cX11_terms 32 = .ok (.iconst 0, 1) := by decide +kernel
theorem dX11_terms_33 : decode cX11_terms 33 = .ok (.ireturn, 1) := by decide +kernel
theorem dX11_terms_34 : decode cX11_terms 34 = .ok (.aload_n 0, 1) := by decide +kernel
theorem dX11_terms_35 : decode cX11_terms 35 = .ok (.getfield 10, 3) := by decide +kernel
theorem dX11_terms_38 : decode cX11_terms 38 = .ok (.iload_n 1, 1) := by decide +kernel
theorem dX11_terms_39 : decode cX11_terms 39 = .ok (.invokevirtual 117, 3) := by decide +kernel
theorem dX11_terms_42 : decode cX11_terms 42 = .ok (.aload_n 0, 1) := by decide +kernel
theorem dX11_terms_43 : decode cX11_terms 43 = .ok (.iload_n 2, 1) := by decide +kernel
theorem dX11_terms_44 : decode cX11_terms 44 = .ok (.putfield 64, 3) := by decide +kernel
theorem dX11_terms_47 : decode cX11_terms 47 = .ok (.aload_n 0, 1) := by decide +kernel
theorem dX11_terms_48 : decode cX11_terms 48 = .ok (.iload_n 3, 1) := by decide +kernel
theorem dX11_terms_49 : decode cX11_terms 49 = .ok (.putfield 68, 3) := by decide +kernel
theorem dX11_terms_52 : decode cX11_terms 52 = .ok (.iconst 1, 1) := by decide +kernel
theorem dX11_terms_53 : decode cX11_terms 53 = .ok (.ireturn, 1) := by decide +kernel
theorem dX11_rest_0 : decode cX11_rest 0 = .ok (.iload_n 1, 1) := by decide +kernel
theorem dX11_rest_1 : decode cX11_rest 1 = .ok (.iconst 0, 1) := by decide +kernel
theorem dX11_rest_2 : decode cX11_rest 2 = .ok (.sipush 400, 3) := by decide +kernel
theorem dX11_rest_5 : decode cX11_rest 5 = .ok (.invokestatic 71, 3) := by decide +kernel
theorem dX11_rest_8 : decode cX11_rest 8 = .ok (.ifCond .eq 14, 3) := by decide +kernel
theorem dX11_rest_11 : decode cX11_rest 11 = .ok (.iload_n 2, 1) := by decide +kernel
theorem dX11_rest_12 : decode cX11_rest 12 = .ok (.iconst 0, 1) := by decide +kernel
theorem dX11_rest_13 : decode cX11_rest 13 = .ok (.sipush 198, 3) := by decide +kernel
theorem dX11_rest_16 : decode cX11_rest 16 = .ok (.invokestatic 71, 3) := by decide +kernel
theorem dX11_rest_19 : decode cX11_rest 19 = .ok (.ifCond .ne 5, 3) := by decide +kernel
theorem dX11_rest_22 : decode cX11_rest 22 = .ok (.iconst 0, 1) := by decide +kernel
theorem dX11_rest_23 : decode cX11_rest 23 = .ok (.ireturn, 1) := by decide +kernel
theorem dX11_rest_24 : decode cX11_rest 24 = .ok (.aload_n 0, 1) := by decide +kernel
theorem dX11_rest_25 : decode cX11_rest 25 = .ok (.getfield 10, 3) := by decide +kernel
theorem dX11_rest_28 : decode cX11_rest 28 = .ok (.iload_n 1, 1) := by decide +kernel
theorem dX11_rest_29 : decode cX11_rest 29 = .ok (.putfield 120, 3) := by decide +kernel
theorem dX11_rest_32 : decode cX11_rest 32 = .ok (.aload_n 0, 1) := by decide +kernel
theorem dX11_rest_33 : decode cX11_rest 33 = .ok (.getfield 10, 3) := by decide +kernel
theorem dX11_rest_36 : decode cX11_rest 36 = .ok (.iload_n 2, 1) := by decide +kernel
theorem dX11_rest_37 : decode cX11_rest 37 = .ok (.putfield 123, 3) := by decide +kernel
theorem dX11_rest_40 : decode cX11_rest 40 = .ok (.iconst 1, 1) := by decide +kernel
theorem dX11_rest_41 : decode cX11_rest 41 = .ok (.ireturn, 1) := by decide +kernel
theorem dX11_visit_0 : decode cX11_visit 0 = .ok (.aload_n 0, 1) := by decide +kernel
theorem dX11_visit_1 : decode cX11_visit 1 = .ok (.getfield 10, 3) := by decide +kernel
theorem dX11_visit_4 : decode cX11_visit 4 = .ok (.iload_n 1, 1) := by decide +kernel
theorem dX11_visit_5 : decode cX11_visit 5 = .ok (.invokevirtual 126, 3) := by decide +kernel
theorem dX11_visit_8 : decode cX11_visit 8 = .ok (.ifCond .eq 29, 3) := by decide +kernel
theorem dX11_visit_11 : decode cX11_visit 11 = .ok (.aload_n 0, 1) := by decide +kernel
theorem dX11_visit_12 : decode cX11_visit 12 = .ok (.getfield 10, 3) := by decide +kernel
theorem dX11_visit_15 : decode cX11_visit 15 = .ok (.iload_n 2, 1) := by decide +kernel
theorem dX11_visit_16 : decode cX11_visit 16 = .ok (.invokevirtual 129, 3) := by decide +kernel
theorem dX11_visit_19 : decode cX11_visit 19 = .ok (.ifCond .eq 18, 3) := by decide +kernel
theorem dX11_visit_22 : decode cX11_visit 22 = .ok (.iload_n 3, 1) := by decide +kernel
theorem dX11_visit_23 : decode cX11_visit 23 = .ok (.iconst 0, 1) := by decide +kernel
theorem dX11_visit_24 : decode cX11_visit 24 = .ok (.aload_n 0, 1) := by decide +kernel
theorem dX11_visit_25 : decode cX11_visit 25 = .ok (.getfield 10, 3) := by decide +kernel
theorem dX11_visit_28 : decode cX11_visit 28 = .ok (.getfield 75, 3) := by decide +kernel
theorem dX11_visit_31 : decode cX11_visit 31 = .ok (.invokestatic 71, 3) := by decide +kernel
theorem dX11_visit_34 : decode cX11_visit 34 = .ok (.ifCond .ne 5, 3) := by decide +kernel
theorem dX11_visit_37 : decode cX11_visit 37 = .ok (.iconst (-1), 1) := by decide +kernel
theorem dX11_visit_38 : decode cX11_visit 38 = .ok (.ireturn, 1) := by decide +kernel
theorem dX11_visit_39 : decode cX11_visit 39 = .ok (.iload 4, 2) := by decide +kernel
theorem dX11_visit_41 : decode cX11_visit 41 = .ok (.invokestatic 90, 3) := by decide +kernel
theorem dX11_visit_44 : decode cX11_visit 44 = .ok (.ifCond .eq 27, 3) := by decide +kernel
theorem dX11_visit_47 : decode cX11_visit 47 = .ok (.iload 5, 2) := by decide +kernel
theorem dX11_visit_49 : decode cX11_visit 49 = .ok (.iconst 1, 1) := by decide +kernel
theorem dX11_visit_50 : decode cX11_visit 50 = .ok (.sipush 300, 3) := by decide +kernel
theorem dX11_visit_53 : decode cX11_visit 53 = .ok (.invokestatic 71, 3) := by decide +kernel
theorem dX11_visit_56 : decode cX11_visit 56 = .ok (.ifCond .eq 15, 3) := by decide +kernel
theorem dX11_visit_59 : decode cX11_visit 59 = .ok (.iload 6, 2) := by decide +kernel
theorem dX11_visit_61 : decode cX11_visit 61 = .ok (.iconst 0, 1) := by decide +kernel
theorem dX11_visit_62 : decode cX11_visit 62 = .ok (.sipush 4095, 3) := by decide +kernel
theorem dX11_visit_65 : decode cX11_visit 65 = .ok (.invokestatic 71, 3) := by decide +kernel
theorem dX11_visit_68 : decode cX11_visit 68 = .ok (.ifCond .ne 5, 3) := by decide +kernel
theorem dX11_visit_71 : decode cX11_visit 71 = .ok (.iconst (-1), 1) := by decide +kernel
theorem dX11_visit_72 : decode cX11_visit 72 = .ok (.ireturn, 1) := by decide +kernel
theorem dX11_visit_73 : decode cX11_visit 73 = .ok (.iload 7, 2) := by decide +kernel
theorem dX11_visit_75 : decode cX11_visit 75 = .ok (.iconst (-1), 1) := by decide +kernel
theorem dX11_visit_76 : decode cX11_visit 76 = .ok (.if_icmp .eq 13, 3) := by decide +kernel
theorem dX11_visit_79 : decode cX11_visit 79 = .ok (.iload 7, 2) := by decide +kernel
theorem dX11_visit_81 : decode cX11_visit 81 = .ok (.invokestatic 90, 3) := by decide +kernel
theorem dX11_visit_84 : decode cX11_visit 84 = .ok (.ifCond .ne 5, 3) := by decide +kernel
theorem dX11_visit_87 : decode cX11_visit 87 = .ok (.iconst (-1), 1) := by decide +kernel
theorem dX11_visit_88 : decode cX11_visit 88 = .ok (.ireturn, 1) := by decide +kernel
theorem dX11_visit_89 : decode cX11_visit 89 = .ok (.aload_n 0, 1) := by decide +kernel
theorem dX11_visit_90 : decode cX11_visit 90 = .ok (.getfield 10, 3) := by decide +kernel
theorem dX11_visit_93 : decode cX11_visit 93 = .ok (.getfield 132, 3) := by decide +kernel
theorem dX11_visit_96 : decode cX11_visit 96 = .ok (.bipush 120, 2) := by decide +kernel
theorem dX11_visit_98 : decode cX11_visit 98 = .ok (.if_icmp .ge 17, 3) := by decide +kernel
theorem dX11_visit_101 : decode cX11_visit 101 = .ok (.aload_n 0, 1) := by decide +kernel
theorem dX11_visit_102 : decode cX11_visit 102 = .ok (.getfield 10, 3) := by decide +kernel
theorem dX11_visit_105 : decode cX11_visit 105 = .ok (.iload_n 2, 1) := by decide +kernel
theorem dX11_visit_106 : decode cX11_visit 106 = .ok (.iload_n 3, 1) := by decide +kernel
theorem dX11_visit_107 : decode cX11_visit 107 = .ok (.invokevirtual 135, 3) := by decide +kernel
theorem dX11_visit_110 : decode cX11_visit 110 = .ok (.bipush 12, 2) := by decide +kernel
theorem dX11_visit_112 : decode cX11_visit 112 = .ok (.if_icmp .lt 5, 3) := by decide +kernel
theorem dX11_visit_115 : decode cX11_visit 115 = .ok (.iconst (-1), 1) := by decide +kernel
theorem dX11_visit_116 : decode cX11_visit 116 = .ok (.ireturn, 1) := by decide +kernel
theorem dX11_visit_117 : decode cX11_visit 117 = .ok (.new 139, 3) := by decide +kernel
theorem dX11_visit_120 : decode cX11_visit 120 = .ok (.dup, 1) := by decide +kernel
theorem dX11_visit_121 : decode cX11_visit 121 = .ok (.aload_n 0, 1) := by decide +kernel
theorem dX11_visit_122 : decode cX11_visit 122 = .ok (.getfield 10, 3) := by decide +kernel
theorem dX11_visit_125 : decode cX11_visit 125 = .ok (.getfield 132, 3) := by decide +kernel
theorem dX11_visit_128 : decode cX11_visit 128 = .ok (.aload_n 0, 1) := by decide +kernel
theorem dX11_visit_129 : decode cX11_visit 129 = .ok (.getfield 10, 3) := by decide +kernel
theorem dX11_visit_132 : decode cX11_visit 132 = .ok (.getfield 75, 3) := by decide +kernel
theorem dX11_visit_135 : decode cX11_visit 135 = .ok (.invokespecial 141, 3) := by decide +kernel
theorem dX11_visit_138 : decode cX11_visit 138 = .ok (.astore 8, 2) := by decide +kernel
theorem dX11_visit_140 : decode cX11_visit 140 = .ok (.aload 8, 2) := by decide +kernel
theorem dX11_visit_142 : decode cX11_visit 142 = .ok (.iload_n 1, 1) := by decide +kernel
theorem dX11_visit_143 : decode cX11_visit 143 = .ok (.iload_n 2, 1) := by decide +kernel
theorem dX11_visit_144 : decode cX11_visit 144 = .ok (.iload_n 3, 1) := by decide +kernel
theorem dX11_visit_145 : decode cX11_visit 145 = .ok (.iload 4, 2) := by decide +kernel
theorem dX11_visit_147 : decode cX11_visit 147 = .ok (.iload 5, 2) := by decide +kernel
theorem dX11_visit_149 : decode cX11_visit 149 = .ok (.invokevirtual 142, 3) := by decide +kernel
theorem dX11_visit_152 : decode cX11_visit 152 = .ok (.aload 8, 2) := by decide +kernel
theorem dX11_visit_154 : decode cX11_visit 154 = .ok (.iload 6, 2) := by decide +kernel
theorem dX11_visit_156 : decode cX11_visit 156 = .ok (.iload 7, 2) := by decide +kernel
theorem dX11_visit_158 : decode cX11_visit 158 = .ok (.invokevirtual 146, 3) := by decide +kernel
theorem dX11_visit_161 : decode cX11_visit 161 = .ok (.aload_n 0, 1) := by decide +kernel
theorem dX11_visit_162 : decode cX11_visit 162 = .ok (.getfield 10, 3) := by decide +kernel
theorem dX11_visit_165 : decode cX11_visit 165 = .ok (.aload 8, 2) := by decide +kernel
theorem dX11_visit_167 : decode cX11_visit 167 = .ok (.invokevirtual 149, 3) := by decide +kernel
theorem dX11_visit_170 : decode cX11_visit 170 = .ok (.aload 8, 2) := by decide +kernel
theorem dX11_visit_172 : decode cX11_visit 172 = .ok (.getfield 153, 3) := by decide +kernel
theorem dX11_visit_175 : decode cX11_visit 175 = .ok (.ireturn, 1) := by decide +kernel
theorem dX11_appeal_0 : decode cX11_appeal 0 = .ok (.iload_n 1, 1) := by decide +kernel
theorem dX11_appeal_1 : decode cX11_appeal 1 = .ok (.iconst 0, 1) := by decide +kernel
theorem dX11_appeal_2 : decode cX11_appeal 2 = .ok (.aload_n 0, 1) := by decide +kernel
theorem dX11_appeal_3 : decode cX11_appeal 3 = .ok (.getfield 10, 3) := by decide +kernel
theorem dX11_appeal_6 : decode cX11_appeal 6 = .ok (.getfield 132, 3) := by decide +kernel
theorem dX11_appeal_9 : decode cX11_appeal 9 = .ok (.iconst 1, 1) := by decide +kernel
theorem dX11_appeal_10 : decode cX11_appeal 10 = .ok (.isub, 1) := by decide +kernel
theorem dX11_appeal_11 : decode cX11_appeal 11 = .ok (.invokestatic 71, 3) := by decide +kernel
theorem dX11_appeal_14 : decode cX11_appeal 14 = .ok (.ifCond .eq 13, 3) := by decide +kernel
theorem dX11_appeal_17 : decode cX11_appeal 17 = .ok (.iload_n 2, 1) := by decide +kernel
theorem dX11_appeal_18 : decode cX11_appeal 18 = .ok (.iconst 0, 1) := by decide +kernel
theorem dX11_appeal_19 : decode cX11_appeal 19 = .ok (.bipush 11, 2) := by decide +kernel
theorem dX11_appeal_21 : decode cX11_appeal 21 = .ok (.invokestatic 71, 3) := by decide +kernel
theorem dX11_appeal_24 : decode cX11_appeal 24 = .ok (.ifCond .ne 5, 3) := by decide +kernel
theorem dX11_appeal_27 : decode cX11_appeal 27 = .ok (.iconst 0, 1) := by decide +kernel
theorem dX11_appeal_28 : decode cX11_appeal 28 = .ok (.ireturn, 1) := by decide +kernel
theorem dX11_appeal_29 : decode cX11_appeal 29 = .ok (.aload_n 0, 1) := by decide +kernel
theorem dX11_appeal_30 : decode cX11_appeal 30 = .ok (.getfield 10, 3) := by decide +kernel
theorem dX11_appeal_33 : decode cX11_appeal 33 = .ok (.getfield 156, 3) := by decide +kernel
theorem dX11_appeal_36 : decode cX11_appeal 36 = .ok (.iload_n 1, 1) := by decide +kernel
theorem dX11_appeal_37 : decode cX11_appeal 37 = .ok (.aaload, 1) := by decide +kernel
theorem dX11_appeal_38 : decode cX11_appeal 38 = .ok (.astore_n 3, 1) := by decide +kernel
theorem dX11_appeal_39 : decode cX11_appeal 39 = .ok (.aload_n 0, 1) := by decide +kernel
theorem dX11_appeal_40 : decode cX11_appeal 40 = .ok (.getfield 10, 3) := by decide +kernel
theorem dX11_appeal_43 : decode cX11_appeal 43 = .ok (.getfield 96, 3) := by decide +kernel
theorem dX11_appeal_46 : decode cX11_appeal 46 = .ok (.aload_n 3, 1) := by decide +kernel
theorem dX11_appeal_47 : decode cX11_appeal 47 = .ok (.getfield 160, 3) := by decide +kernel
theorem dX11_appeal_50 : decode cX11_appeal 50 = .ok (.aaload, 1) := by decide +kernel
theorem dX11_appeal_51 : decode cX11_appeal 51 = .ok (.getfield 163, 3) := by decide +kernel
theorem dX11_appeal_54 : decode cX11_appeal 54 = .ok (.ifCond .eq 20, 3) := by decide +kernel
theorem dX11_appeal_57 : decode cX11_appeal 57 = .ok (.aload_n 0, 1) := by decide +kernel
theorem dX11_appeal_58 : decode cX11_appeal 58 = .ok (.getfield 10, 3) := by decide +kernel
theorem dX11_appeal_61 : decode cX11_appeal 61 = .ok (.getfield 75, 3) := by decide +kernel
theorem dX11_appeal_64 : decode cX11_appeal 64 = .ok (.aload_n 3, 1) := by decide +kernel
theorem dX11_appeal_65 : decode cX11_appeal 65 = .ok (.getfield 167, 3) := by decide +kernel
theorem dX11_appeal_68 : decode cX11_appeal 68 = .ok (.isub, 1) := by decide +kernel
theorem dX11_appeal_69 : decode cX11_appeal 69 = .ok (.bipush 14, 2) := by decide +kernel
theorem dX11_appeal_71 : decode cX11_appeal 71 = .ok (.if_icmp .le 5, 3) := by decide +kernel
theorem dX11_appeal_74 : decode cX11_appeal 74 = .ok (.iconst 0, 1) := by decide +kernel
theorem dX11_appeal_75 : decode cX11_appeal 75 = .ok (.ireturn, 1) := by decide +kernel
theorem dX11_appeal_76 : decode cX11_appeal 76 = .ok (.aload_n 0, 1) := by decide +kernel
theorem dX11_appeal_77 : decode cX11_appeal 77 = .ok (.getfield 10, 3) := by decide +kernel
theorem dX11_appeal_80 : decode cX11_appeal 80 = .ok (.getfield 170, 3) := by decide +kernel
theorem dX11_appeal_83 : decode cX11_appeal 83 = .ok (.bipush 60, 2) := by decide +kernel
theorem dX11_appeal_85 : decode cX11_appeal 85 = .ok (.if_icmp .lt 5, 3) := by decide +kernel
theorem dX11_appeal_88 : decode cX11_appeal 88 = .ok (.iconst 0, 1) := by decide +kernel
theorem dX11_appeal_89 : decode cX11_appeal 89 = .ok (.ireturn, 1) := by decide +kernel
theorem dX11_appeal_90 : decode cX11_appeal 90 = .ok (.aload_n 0, 1) := by decide +kernel
theorem dX11_appeal_91 : decode cX11_appeal 91 = .ok (.getfield 10, 3) := by decide +kernel
theorem dX11_appeal_94 : decode cX11_appeal 94 = .ok (.aload_n 3, 1) := by decide +kernel
theorem dX11_appeal_95 : decode cX11_appeal 95 = .ok (.iload_n 2, 1) := by decide +kernel
theorem dX11_appeal_96 : decode cX11_appeal 96 = .ok (.invokevirtual 173, 3) := by decide +kernel
theorem dX11_appeal_99 : decode cX11_appeal 99 = .ok (.iconst 1, 1) := by decide +kernel
theorem dX11_appeal_100 : decode cX11_appeal 100 = .ok (.ireturn, 1) := by decide +kernel
theorem dX11_feed_0 : decode cX11_feed 0 = .ok (.aload_n 0, 1) := by decide +kernel
theorem dX11_feed_1 : decode cX11_feed 1 = .ok (.getfield 19, 3) := by decide +kernel
theorem dX11_feed_4 : decode cX11_feed 4 = .ok (.lload_n 1, 1) := by decide +kernel
theorem dX11_feed_5 : decode cX11_feed 5 = .ok (.invokevirtual 177, 3) := by decide +kernel
theorem dX11_feed_8 : decode cX11_feed 8 = .ok (.aload_n 0, 1) := by decide +kernel
theorem dX11_feed_9 : decode cX11_feed 9 = .ok (.getfield 19, 3) := by decide +kernel
theorem dX11_feed_12 : decode cX11_feed 12 = .ok (.lload_n 3, 1) := by decide +kernel
theorem dX11_feed_13 : decode cX11_feed 13 = .ok (.invokevirtual 177, 3) := by decide +kernel
theorem dX11_feed_16 : decode cX11_feed 16 = .ok (.aload_n 0, 1) := by decide +kernel
theorem dX11_feed_17 : decode cX11_feed 17 = .ok (.getfield 19, 3) := by decide +kernel
theorem dX11_feed_20 : decode cX11_feed 20 = .ok (.lload 5, 2) := by decide +kernel
theorem dX11_feed_22 : decode cX11_feed 22 = .ok (.invokevirtual 177, 3) := by decide +kernel
theorem dX11_feed_25 : decode cX11_feed 25 = .ok (.aload_n 0, 1) := by decide +kernel
theorem dX11_feed_26 : decode cX11_feed 26 = .ok (.getfield 19, 3) := by decide +kernel
theorem dX11_feed_29 : decode cX11_feed 29 = .ok (.getfield 181, 3) := by decide +kernel
theorem dX11_feed_32 : decode cX11_feed 32 = .ok (.ireturn, 1) := by decide +kernel
theorem dX11_brief_0 : decode cX11_brief 0 = .ok (.iload_n 1, 1) := by decide +kernel
theorem dX11_brief_1 : decode cX11_brief 1 = .ok (.invokestatic 86, 3) := by decide +kernel
theorem dX11_brief_4 : decode cX11_brief 4 = .ok (.ifCond .eq 22, 3) := by decide +kernel
theorem dX11_brief_7 : decode cX11_brief 7 = .ok (.iload_n 2, 1) := by decide +kernel
theorem dX11_brief_8 : decode cX11_brief 8 = .ok (.invokestatic 184, 3) := by decide +kernel
theorem dX11_brief_11 : decode cX11_brief 11 = .ok (.ifCond .eq 15, 3) := by decide +kernel
theorem dX11_brief_14 : decode cX11_brief 14 = .ok (.aload_n 0, 1) := by decide +kernel
theorem dX11_brief_15 : decode cX11_brief 15 = .ok (.getfield 10, 3) := by decide +kernel
theorem dX11_brief_18 : decode cX11_brief 18 = .ok (.getfield 187, 3) := by decide +kernel
theorem dX11_brief_21 : decode cX11_brief 21 = .ok (.bipush 16, 2) := by decide +kernel
theorem dX11_brief_23 : decode cX11_brief 23 = .ok (.if_icmp .lt 13, 3) := by decide +kernel
theorem dX11_brief_26 : decode cX11_brief 26 = .ok (.aload_n 0, 1) := by decide +kernel
theorem dX11_brief_27 : decode cX11_brief 27 = .ok (.getfield 19, 3) := by decide +kernel
theorem dX11_brief_30 : decode cX11_brief 30 = .ok (.iconst 0, 1) := by decide +kernel
theorem dX11_brief_31 : decode cX11_brief 31 = .ok (.putfield 181, 3) := by decide +kernel
theorem dX11_brief_34 : decode cX11_brief 34 = .ok (.iconst (-1), 1) := by decide +kernel
theorem dX11_brief_35 : decode cX11_brief 35 = .ok (.ireturn, 1) := by decide +kernel
theorem dX11_brief_36 : decode cX11_brief 36 = .ok (.aload_n 0, 1) := by decide +kernel
theorem dX11_brief_37 : decode cX11_brief 37 = .ok (.getfield 28, 3) := by decide +kernel
theorem dX11_brief_40 : decode cX11_brief 40 = .ok (.invokevirtual 190, 3) := by decide +kernel
theorem dX11_brief_43 : decode cX11_brief 43 = .ok (.istore_n 3, 1) := by decide +kernel
theorem dX11_brief_44 : decode cX11_brief 44 = .ok (.aload_n 0, 1) := by decide +kernel
theorem dX11_brief_45 : decode cX11_brief 45 = .ok (.getfield 19, 3) := by decide +kernel
theorem dX11_brief_48 : decode cX11_brief 48 = .ok (.iconst 0, 1) := by decide +kernel
theorem dX11_brief_49 : decode cX11_brief 49 = .ok (.putfield 181, 3) := by decide +kernel
theorem dX11_brief_52 : decode cX11_brief 52 = .ok (.iload_n 3, 1) := by decide +kernel
theorem dX11_brief_53 : decode cX11_brief 53 = .ok (.ifCond .ne 33, 3) := by decide +kernel
theorem dX11_brief_56 : decode cX11_brief 56 = .ok (.aload_n 0, 1) := by decide +kernel
theorem dX11_brief_57 : decode cX11_brief 57 = .ok (.getfield 10, 3) := by decide +kernel
theorem dX11_brief_60 : decode cX11_brief 60 = .ok (.new 194, 3) := by decide +kernel
theorem dX11_brief_63 : decode cX11_brief 63 = .ok (.dup, 1) := by decide +kernel
theorem dX11_brief_64 : decode cX11_brief 64 = .ok (.iload_n 1, 1) := by decide +kernel
theorem dX11_brief_65 : decode cX11_brief 65 = .ok (.iload_n 2, 1) := by decide +kernel
theorem dX11_brief_66 : decode cX11_brief 66 = .ok (.aload_n 0, 1) := by decide +kernel
theorem dX11_brief_67 : decode cX11_brief 67 = .ok (.getfield 10, 3) := by decide +kernel
theorem dX11_brief_70 : decode cX11_brief 70 = .ok (.getfield 75, 3) := by decide +kernel
theorem dX11_brief_73 : decode cX11_brief 73 = .ok (.aload_n 0, 1) := by decide +kernel
theorem dX11_brief_74 : decode cX11_brief 74 = .ok (.getfield 28, 3) := by decide +kernel
theorem dX11_brief_77 : decode cX11_brief 77 = .ok (.invokevirtual 196, 3) := by decide +kernel
theorem dX11_brief_80 : decode cX11_brief 80 = .ok (.invokespecial 200, 3) := by decide +kernel
theorem dX11_brief_83 : decode cX11_brief 83 = .ok (.invokevirtual 203, 3) := by decide +kernel
theorem dX11_brief_86 : decode cX11_brief 86 = .ok (.iload_n 3, 1) := by decide +kernel
theorem dX11_brief_87 : decode cX11_brief 87 = .ok (.ireturn, 1) := by decide +kernel
theorem dX11_look_0 : decode cX11_look 0 = .ok (.aload_n 0, 1) := by decide +kernel
theorem dX11_look_1 : decode cX11_look 1 = .ok (.getfield 10, 3) := by decide +kernel
theorem dX11_look_4 : decode cX11_look 4 = .ok (.iload_n 1, 1) := by decide +kernel
theorem dX11_look_5 : decode cX11_look 5 = .ok (.invokevirtual 207, 3) := by decide +kernel
theorem dX11_look_8 : decode cX11_look 8 = .ok (.ifCond .eq 12, 3) := by decide +kernel
theorem dX11_look_11 : decode cX11_look 11 = .ok (.iload_n 2, 1) := by decide +kernel
theorem dX11_look_12 : decode cX11_look 12 = .ok (.iconst 0, 1) := by decide +kernel
theorem dX11_look_13 : decode cX11_look 13 = .ok (.iconst 5, 1) := by decide +kernel
theorem dX11_look_14 : decode cX11_look 14 = .ok (.invokestatic 71, 3) := by decide +kernel
theorem dX11_look_17 : decode cX11_look 17 = .ok (.ifCond .ne 13, 3) := by decide +kernel
theorem dX11_look_20 : decode cX11_look 20 = .ok (.new 210, 3) := by decide +kernel
theorem dX11_look_23 : decode cX11_look 23 = .ok (.dup, 1) := by decide +kernel
theorem dX11_look_24 : decode cX11_look 24 = .ok (.ldc 212, 2) := by decide +kernel
theorem dX11_look_26 : decode cX11_look 26 = .ok (.invokespecial 214, 3) := by decide +kernel
theorem dX11_look_29 : decode cX11_look 29 = .ok (.athrow, 1) := by decide +kernel
theorem dX11_look_30 : decode cX11_look 30 = .ok (.aload_n 0, 1) := by decide +kernel
theorem dX11_look_31 : decode cX11_look 31 = .ok (.getfield 10, 3) := by decide +kernel
theorem dX11_look_34 : decode cX11_look 34 = .ok (.getfield 156, 3) := by decide +kernel
theorem dX11_look_37 : decode cX11_look 37 = .ok (.iload_n 1, 1) := by decide +kernel
theorem dX11_look_38 : decode cX11_look 38 = .ok (.aaload, 1) := by decide +kernel
theorem dX11_look_39 : decode cX11_look 39 = .ok (.astore_n 3, 1) := by decide +kernel
theorem dX11_look_40 : decode cX11_look 40 = .ok (.iload_n 2, 1) := by decide +kernel
theorem dX11_look_41 : decode cX11_look 41 = .ok (.iconst 2, 1) := by decide +kernel
theorem dX11_look_42 : decode cX11_look 42 = .ok (.if_icmp .ne 8, 3) := by decide +kernel
theorem dX11_look_45 : decode cX11_look 45 = .ok (.aload_n 3, 1) := by decide +kernel
theorem dX11_look_46 : decode cX11_look 46 = .ok (.getfield 217, 3) := by decide +kernel
theorem dX11_look_49 : decode cX11_look 49 = .ok (.ireturn, 1) := by decide +kernel
theorem dX11_look_50 : decode cX11_look 50 = .ok (.iload_n 2, 1) := by decide +kernel
theorem dX11_look_51 : decode cX11_look 51 = .ok (.iconst 3, 1) := by decide +kernel
theorem dX11_look_52 : decode cX11_look 52 = .ok (.if_icmp .eq 8, 3) := by decide +kernel
theorem dX11_look_55 : decode cX11_look 55 = .ok (.iload_n 2, 1) := by decide +kernel
theorem dX11_look_56 : decode cX11_look 56 = .ok (.iconst 4, 1) := by decide +kernel
theorem dX11_look_57 : decode cX11_look 57 = .ok (.if_icmp .ne 35, 3) := by decide +kernel
theorem dX11_look_60 : decode cX11_look 60 = .ok (.aload_n 0, 1) := by decide +kernel
theorem dX11_look_61 : decode cX11_look 61 = .ok (.getfield 37, 3) := by decide +kernel
theorem dX11_look_64 : decode cX11_look 64 = .ok (.invokevirtual 220, 3) := by decide +kernel
theorem dX11_look_67 : decode cX11_look 67 = .ok (.iload_n 2, 1) := by decide +kernel
theorem dX11_look_68 : decode cX11_look 68 = .ok (.iconst 3, 1) := by decide +kernel
theorem dX11_look_69 : decode cX11_look 69 = .ok (.if_icmp .ne 10, 3) := by decide +kernel
theorem dX11_look_72 : decode cX11_look 72 = .ok (.aload_n 3, 1) := by decide +kernel
theorem dX11_look_73 : decode cX11_look 73 = .ok (.getfield 223, 3) := by decide +kernel
theorem dX11_look_76 : decode cX11_look 76 = .ok (.goto 15, 3) := by decide +kernel
theorem dX11_look_79 : decode cX11_look 79 = .ok (.aload_n 3, 1) := by decide +kernel
theorem dX11_look_80 : decode cX11_look 80 = .ok (.invokevirtual 226, 3) := by decide +kernel
theorem dX11_look_83 : decode cX11_look 83 = .ok (.ifCond .eq 7, 3) := by decide +kernel
theorem dX11_look_86 : decode cX11_look 86 = .ok (.iconst 1, 1) := by decide +kernel
theorem dX11_look_87 : decode cX11_look 87 = .ok (.goto 4, 3) := by decide +kernel
theorem dX11_look_90 : decode cX11_look 90 = .ok (.iconst 0, 1) := by decide +kernel
theorem dX11_look_91 : decode cX11_look 91 = .ok (.ireturn, 1) := by decide +kernel
theorem dX11_look_92 : decode cX11_look 92 = .ok (.aload_n 0, 1) := by decide +kernel
theorem dX11_look_93 : decode cX11_look 93 = .ok (.getfield 44, 3) := by decide +kernel
theorem dX11_look_96 : decode cX11_look 96 = .ok (.invokevirtual 230, 3) := by decide +kernel
theorem dX11_look_99 : decode cX11_look 99 = .ok (.iload_n 2, 1) := by decide +kernel
theorem dX11_look_100 : decode cX11_look 100 = .ok (.ifCond .ne 10, 3) := by decide +kernel
theorem dX11_look_103 : decode cX11_look 103 = .ok (.aload_n 3, 1) := by decide +kernel
theorem dX11_look_104 : decode cX11_look 104 = .ok (.getfield 231, 3) := by decide +kernel
theorem dX11_look_107 : decode cX11_look 107 = .ok (.goto 19, 3) := by decide +kernel
theorem dX11_look_110 : decode cX11_look 110 = .ok (.iload_n 2, 1) := by decide +kernel
theorem dX11_look_111 : decode cX11_look 111 = .ok (.iconst 1, 1) := by decide +kernel
theorem dX11_look_112 : decode cX11_look 112 = .ok (.if_icmp .ne 10, 3) := by decide +kernel
theorem dX11_look_115 : decode cX11_look 115 = .ok (.aload_n 3, 1) := by decide +kernel
theorem dX11_look_116 : decode cX11_look 116 = .ok (.getfield 234, 3) := by decide +kernel
theorem dX11_look_119 : decode cX11_look 119 = .ok (.goto 7, 3) := by decide +kernel
theorem dX11_look_122 : decode cX11_look 122 = .ok (.aload_n 3, 1) := by decide +kernel
theorem dX11_look_123 : decode cX11_look 123 = .ok (.getfield 237, 3) := by decide +kernel
theorem dX11_look_126 : decode cX11_look 126 = .ok (.ireturn, 1) := by decide +kernel
theorem dX11_fair_0 : decode cX11_fair 0 = .ok (.aload_n 0, 1) := by decide +kernel
theorem dX11_fair_1 : decode cX11_fair 1 = .ok (.getfield 10, 3) := by decide +kernel
theorem dX11_fair_4 : decode cX11_fair 4 = .ok (.iload_n 1, 1) := by decide +kernel
theorem dX11_fair_5 : decode cX11_fair 5 = .ok (.invokevirtual 207, 3) := by decide +kernel
theorem dX11_fair_8 : decode cX11_fair 8 = .ok (.ifCond .ne 13, 3) := by decide +kernel
theorem dX11_fair_11 : decode cX11_fair 11 = .ok (.new 210, 3) := by decide +kernel
theorem dX11_fair_14 : decode cX11_fair 14 = .ok (.dup, 1) := by decide +kernel
theorem dX11_fair_15 : decode cX11_fair 15 = .ok (.ldc 240, 2) := by decide +kernel
theorem dX11_fair_17 : decode cX11_fair 17 = .ok (.invokespecial 214, 3) := by decide +kernel
theorem dX11_fair_20 : decode cX11_fair 20 = .ok (.athrow, 1) := by decide +kernel
theorem dX11_fair_21 : decode cX11_fair 21 = .ok (.aload_n 0, 1) := by decide +kernel
theorem dX11_fair_22 : decode cX11_fair 22 = .ok (.getfield 53, 3) := by decide +kernel
theorem dX11_fair_25 : decode cX11_fair 25 = .ok (.invokevirtual 242, 3) := by decide +kernel
theorem dX11_fair_28 : decode cX11_fair 28 = .ok (.aload_n 0, 1) := by decide +kernel
theorem dX11_fair_29 : decode cX11_fair 29 = .ok (.getfield 53, 3) := by decide +kernel
theorem dX11_fair_32 : decode cX11_fair 32 = .ok (.aload_n 0, 1) := by decide +kernel
theorem dX11_fair_33 : decode cX11_fair 33 = .ok (.getfield 10, 3) := by decide +kernel
theorem dX11_fair_36 : decode cX11_fair 36 = .ok (.getfield 156, 3) := by decide +kernel
theorem dX11_fair_39 : decode cX11_fair 39 = .ok (.iload_n 1, 1) := by decide +kernel
theorem dX11_fair_40 : decode cX11_fair 40 = .ok (.aaload, 1) := by decide +kernel
theorem dX11_fair_41 : decode cX11_fair 41 = .ok (.invokevirtual 243, 3) := by decide +kernel
theorem dX11_fair_44 : decode cX11_fair 44 = .ok (.ireturn, 1) := by decide +kernel
theorem dX11_fewest_0 : decode cX11_fewest 0 = .ok (.aload_n 0, 1) := by decide +kernel
theorem dX11_fewest_1 : decode cX11_fewest 1 = .ok (.getfield 10, 3) := by decide +kernel
theorem dX11_fewest_4 : decode cX11_fewest 4 = .ok (.iload_n 1, 1) := by decide +kernel
theorem dX11_fewest_5 : decode cX11_fewest 5 = .ok (.invokevirtual 129, 3) := by decide +kernel
theorem dX11_fewest_8 : decode cX11_fewest 8 = .ok (.ifCond .eq 10, 3) := by decide +kernel
theorem dX11_fewest_11 : decode cX11_fewest 11 = .ok (.iload_n 2, 1) := by decide +kernel
theorem dX11_fewest_12 : decode cX11_fewest 12 = .ok (.invokestatic 184, 3) := by decide +kernel
theorem dX11_fewest_15 : decode cX11_fewest 15 = .ok (.ifCond .ne 5, 3) := by decide +kernel
theorem dX11_fewest_18 : decode cX11_fewest 18 = .ok (.iconst (-1), 1) := by decide +kernel
theorem dX11_fewest_19 : decode cX11_fewest 19 = .ok (.ireturn, 1) := by decide +kernel
theorem dX11_fewest_20 : decode cX11_fewest 20 = .ok (.aload_n 0, 1) := by decide +kernel
theorem dX11_fewest_21 : decode cX11_fewest 21 = .ok (.getfield 37, 3) := by decide +kernel
theorem dX11_fewest_24 : decode cX11_fewest 24 = .ok (.invokevirtual 220, 3) := by decide +kernel
theorem dX11_fewest_27 : decode cX11_fewest 27 = .ok (.aload_n 0, 1) := by decide +kernel
theorem dX11_fewest_28 : decode cX11_fewest 28 = .ok (.getfield 37, 3) := by decide +kernel
theorem dX11_fewest_31 : decode cX11_fewest 31 = .ok (.iload_n 1, 1) := by decide +kernel
theorem dX11_fewest_32 : decode cX11_fewest 32 = .ok (.iload_n 2, 1) := by decide +kernel
theorem dX11_fewest_33 : decode cX11_fewest 33 = .ok (.invokevirtual 247, 3) := by decide +kernel
theorem dX11_fewest_36 : decode cX11_fewest 36 = .ok (.ireturn, 1) := by decide +kernel
theorem dX11_set_0 : decode cX11_set 0 = .ok (.aload_n 0, 1) := by decide +kernel
theorem dX11_set_1 : decode cX11_set 1 = .ok (.getfield 10, 3) := by decide +kernel
theorem dX11_set_4 : decode cX11_set 4 = .ok (.iload_n 1, 1) := by decide +kernel
theorem dX11_set_5 : decode cX11_set 5 = .ok (.invokevirtual 129, 3) := by decide +kernel
theorem dX11_set_8 : decode cX11_set 8 = .ok (.ifCond .eq 20, 3) := by decide +kernel
theorem dX11_set_11 : decode cX11_set 11 = .ok (.iload_n 2, 1) := by decide +kernel
theorem dX11_set_12 : decode cX11_set 12 = .ok (.invokestatic 184, 3) := by decide +kernel
theorem dX11_set_15 : decode cX11_set 15 = .ok (.ifCond .eq 13, 3) := by decide +kernel
theorem dX11_set_18 : decode cX11_set 18 = .ok (.iload_n 3, 1) := by decide +kernel
theorem dX11_set_19 : decode cX11_set 19 = .ok (.iconst 0, 1) := by decide +kernel
theorem dX11_set_20 : decode cX11_set 20 = .ok (.bipush 11, 2) := by decide +kernel
theorem dX11_set_22 : decode cX11_set 22 = .ok (.invokestatic 71, 3) := by decide +kernel
theorem dX11_set_25 : decode cX11_set 25 = .ok (.ifCond .ne 5, 3) := by decide +kernel
theorem dX11_set_28 : decode cX11_set 28 = .ok (.iconst (-1), 1) := by decide +kernel
theorem dX11_set_29 : decode cX11_set 29 = .ok (.ireturn, 1) := by decide +kernel
theorem dX11_set_30 : decode cX11_set 30 = .ok (.aload_n 0, 1) := by decide +kernel
theorem dX11_set_31 : decode cX11_set 31 = .ok (.getfield 37, 3) := by decide +kernel
theorem dX11_set_34 : decode cX11_set 34 = .ok (.invokevirtual 220, 3) := by decide +kernel
theorem dX11_set_37 : decode cX11_set 37 = .ok (.aload_n 0, 1) := by decide +kernel
theorem dX11_set_38 : decode cX11_set 38 = .ok (.getfield 37, 3) := by decide +kernel
theorem dX11_set_41 : decode cX11_set 41 = .ok (.iload_n 1, 1) := by decide +kernel
theorem dX11_set_42 : decode cX11_set 42 = .ok (.iload_n 2, 1) := by decide +kernel
theorem dX11_set_43 : decode cX11_set 43 = .ok (.iload_n 3, 1) := by decide +kernel
theorem dX11_set_44 : decode cX11_set 44 = .ok (.invokevirtual 250, 3) := by decide +kernel
theorem dX11_set_47 : decode cX11_set 47 = .ok (.ireturn, 1) := by decide +kernel
theorem dX11_lean_0 : decode cX11_lean 0 = .ok (.aload_n 0, 1) := by decide +kernel
theorem dX11_lean_1 : decode cX11_lean 1 = .ok (.getfield 10, 3) := by decide +kernel
theorem dX11_lean_4 : decode cX11_lean 4 = .ok (.iload_n 1, 1) := by decide +kernel
theorem dX11_lean_5 : decode cX11_lean 5 = .ok (.invokevirtual 129, 3) := by decide +kernel
theorem dX11_lean_8 : decode cX11_lean 8 = .ok (.ifCond .ne 13, 3) := by decide +kernel
theorem dX11_lean_11 : decode cX11_lean 11 = .ok (.new 210, 3) := by decide +kernel
theorem dX11_lean_14 : decode cX11_lean 14 = .ok (.dup, 1) := by decide +kernel
theorem dX11_lean_15 : decode cX11_lean 15 = .ok (.ldc 254, 2) := by decide +kernel
theorem dX11_lean_17 : decode cX11_lean 17 = .ok (.invokespecial 214, 3) := by decide +kernel
theorem dX11_lean_20 : decode cX11_lean 20 = .ok (.athrow, 1) := by decide +kernel
theorem dX11_lean_21 : decode cX11_lean 21 = .ok (.aload_n 0, 1) := by decide +kernel
theorem dX11_lean_22 : decode cX11_lean 22 = .ok (.getfield 53, 3) := by decide +kernel
theorem dX11_lean_25 : decode cX11_lean 25 = .ok (.invokevirtual 242, 3) := by decide +kernel
theorem dX11_lean_28 : decode cX11_lean 28 = .ok (.aload_n 0, 1) := by decide +kernel
theorem dX11_lean_29 : decode cX11_lean 29 = .ok (.getfield 53, 3) := by decide +kernel
theorem dX11_lean_32 : decode cX11_lean 32 = .ok (.iload_n 1, 1) := by decide +kernel
theorem dX11_lean_33 : decode cX11_lean 33 = .ok (.invokevirtual 256, 3) := by decide +kernel
theorem dX11_lean_36 : decode cX11_lean 36 = .ok (.ifCond .ne 14, 3) := by decide +kernel
theorem dX11_lean_39 : decode cX11_lean 39 = .ok (.new 210, 3) := by decide +kernel
theorem dX11_lean_42 : decode cX11_lean 42 = .ok (.dup, 1) := by decide +kernel
theorem dX11_lean_43 : decode cX11_lean 43 = .ok (.ldc_w 259, 3) := by decide +kernel
theorem dX11_lean_46 : decode cX11_lean 46 = .ok (.invokespecial 214, 3) := by decide +kernel
theorem dX11_lean_49 : decode cX11_lean 49 = .ok (.athrow, 1) := by decide +kernel
theorem dX11_lean_50 : decode cX11_lean 50 = .ok (.aload_n 0, 1) := by decide +kernel
theorem dX11_lean_51 : decode cX11_lean 51 = .ok (.getfield 53, 3) := by decide +kernel
theorem dX11_lean_54 : decode cX11_lean 54 = .ok (.iload_n 1, 1) := by decide +kernel
theorem dX11_lean_55 : decode cX11_lean 55 = .ok (.invokevirtual 261, 3) := by decide +kernel
theorem dX11_lean_58 : decode cX11_lean 58 = .ok (.ireturn, 1) := by decide +kernel
theorem dX11_meetings_0 : decode cX11_meetings 0 = .ok (.aload_n 0, 1) := by decide +kernel
theorem dX11_meetings_1 : decode cX11_meetings 1 = .ok (.getfield 10, 3) := by decide +kernel
theorem dX11_meetings_4 : decode cX11_meetings 4 = .ok (.iload_n 1, 1) := by decide +kernel
theorem dX11_meetings_5 : decode cX11_meetings 5 = .ok (.invokevirtual 129, 3) := by decide +kernel
theorem dX11_meetings_8 : decode cX11_meetings 8 = .ok (.ifCond .eq 19, 3) := by decide +kernel
theorem dX11_meetings_11 : decode cX11_meetings 11 = .ok (.aload_n 0, 1) := by decide +kernel
theorem dX11_meetings_12 : decode cX11_meetings 12 = .ok (.getfield 10, 3) := by decide +kernel
theorem dX11_meetings_15 : decode cX11_meetings 15 = .ok (.iload_n 2, 1) := by decide +kernel
theorem dX11_meetings_16 : decode cX11_meetings 16 = .ok (.invokevirtual 129, 3) := by decide +kernel
theorem dX11_meetings_19 : decode cX11_meetings 19 = .ok (.ifCond .eq 8, 3) := by decide +kernel
theorem dX11_meetings_22 : decode cX11_meetings 22 = .ok (.iload_n 1, 1) := by decide +kernel
theorem dX11_meetings_23 : decode cX11_meetings 23 = .ok (.iload_n 2, 1) := by decide +kernel
theorem dX11_meetings_24 : decode cX11_meetings 24 = .ok (.if_icmp .ne 5, 3) := by decide +kernel
theorem dX11_meetings_27 : decode cX11_meetings 27 = .ok (.iconst (-1), 1) := by decide +kernel
theorem dX11_meetings_28 : decode cX11_meetings 28 = .ok (.ireturn, 1) := by decide +kernel
theorem dX11_meetings_29 : decode cX11_meetings 29 = .ok (.aload_n 0, 1) := by decide +kernel
theorem dX11_meetings_30 : decode cX11_meetings 30 = .ok (.getfield 53, 3) := by decide +kernel
theorem dX11_meetings_33 : decode cX11_meetings 33 = .ok (.invokevirtual 242, 3) := by decide +kernel
theorem dX11_meetings_36 : decode cX11_meetings 36 = .ok (.aload_n 0, 1) := by decide +kernel
theorem dX11_meetings_37 : decode cX11_meetings 37 = .ok (.getfield 53, 3) := by decide +kernel
theorem dX11_meetings_40 : decode cX11_meetings 40 = .ok (.iload_n 1, 1) := by decide +kernel
theorem dX11_meetings_41 : decode cX11_meetings 41 = .ok (.iload_n 2, 1) := by decide +kernel
theorem dX11_meetings_42 : decode cX11_meetings 42 = .ok (.invokevirtual 265, 3) := by decide +kernel
theorem dX11_meetings_45 : decode cX11_meetings 45 = .ok (.ireturn, 1) := by decide +kernel
theorem dX11_mean_0 : decode cX11_mean 0 = .ok (.aload_n 0, 1) := by decide +kernel
theorem dX11_mean_1 : decode cX11_mean 1 = .ok (.getfield 53, 3) := by decide +kernel
theorem dX11_mean_4 : decode cX11_mean 4 = .ok (.invokevirtual 242, 3) := by decide +kernel
theorem dX11_mean_7 : decode cX11_mean 7 = .ok (.aload_n 0, 1) := by decide +kernel
theorem dX11_mean_8 : decode cX11_mean 8 = .ok (.iload_n 1, 1) := by decide +kernel
theorem dX11_mean_9 : decode cX11_mean 9 = .ok (.iload_n 2, 1) := by decide +kernel
theorem dX11_mean_10 : decode cX11_mean 10 = .ok (.iload_n 3, 1) := by decide +kernel
theorem dX11_mean_11 : decode cX11_mean 11 = .ok (.invokevirtual 268, 3) := by decide +kernel
theorem dX11_mean_14 : decode cX11_mean 14 = .ok (.ifCond .ne 14, 3) := by decide +kernel
theorem dX11_mean_17 : decode cX11_mean 17 = .ok (.new 210, 3) := by decide +kernel
theorem dX11_mean_20 : decode cX11_mean 20 = .ok (.dup, 1) := by decide +kernel
theorem dX11_mean_21 : decode cX11_mean 21 = .ok (.ldc_w 271, 3) := by decide +kernel
theorem dX11_mean_24 : decode cX11_mean 24 = .ok (.invokespecial 214, 3) := by decide +kernel
theorem dX11_mean_27 : decode cX11_mean 27 = .ok (.athrow, 1) := by decide +kernel
theorem dX11_mean_28 : decode cX11_mean 28 = .ok (.aload_n 0, 1) := by decide +kernel
theorem dX11_mean_29 : decode cX11_mean 29 = .ok (.getfield 53, 3) := by decide +kernel
theorem dX11_mean_32 : decode cX11_mean 32 = .ok (.iload_n 1, 1) := by decide +kernel
theorem dX11_mean_33 : decode cX11_mean 33 = .ok (.invokevirtual 273, 3) := by decide +kernel
theorem dX11_mean_36 : decode cX11_mean 36 = .ok (.ireturn, 1) := by decide +kernel
theorem dX11_doubt_0 : decode cX11_doubt 0 = .ok (.aload_n 0, 1) := by decide +kernel
theorem dX11_doubt_1 : decode cX11_doubt 1 = .ok (.getfield 53, 3) := by decide +kernel
theorem dX11_doubt_4 : decode cX11_doubt 4 = .ok (.invokevirtual 242, 3) := by decide +kernel
theorem dX11_doubt_7 : decode cX11_doubt 7 = .ok (.aload_n 0, 1) := by decide +kernel
theorem dX11_doubt_8 : decode cX11_doubt 8 = .ok (.iload_n 1, 1) := by decide +kernel
theorem dX11_doubt_9 : decode cX11_doubt 9 = .ok (.iload_n 2, 1) := by decide +kernel
theorem dX11_doubt_10 : decode cX11_doubt 10 = .ok (.iload_n 3, 1) := by decide +kernel
theorem dX11_doubt_11 : decode cX11_doubt 11 = .ok (.invokevirtual 268, 3) := by decide +kernel
theorem dX11_doubt_14 : decode cX11_doubt 14 = .ok (.ifCond .eq 18, 3) := by decide +kernel
theorem dX11_doubt_17 : decode cX11_doubt 17 = .ok (.aload_n 0, 1) := by decide +kernel
theorem dX11_doubt_18 : decode cX11_doubt 18 = .ok (.getfield 53, 3) := by decide +kernel
theorem dX11_doubt_21 : decode cX11_doubt 21 = .ok (.iload_n 1, 1) := by decide +kernel
theorem dX11_doubt_22 : decode cX11_doubt 22 = .ok (.aload_n 0, 1) := by decide +kernel
theorem dX11_doubt_23 : decode cX11_doubt 23 = .ok (.getfield 68, 3) := by decide +kernel
theorem dX11_doubt_26 : decode cX11_doubt 26 = .ok (.invokevirtual 276, 3) := by decide +kernel
theorem dX11_doubt_29 : decode cX11_doubt 29 = .ok (.goto 4, 3) := by decide +kernel
theorem dX11_doubt_32 : decode cX11_doubt 32 = .ok (.iconst (-1), 1) := by decide +kernel
theorem dX11_doubt_33 : decode cX11_doubt 33 = .ok (.ireturn, 1) := by decide +kernel
theorem dX11_apart_0 : decode cX11_apart 0 = .ok (.aload_n 0, 1) := by decide +kernel
theorem dX11_apart_1 : decode cX11_apart 1 = .ok (.getfield 53, 3) := by decide +kernel
theorem dX11_apart_4 : decode cX11_apart 4 = .ok (.invokevirtual 242, 3) := by decide +kernel
theorem dX11_apart_7 : decode cX11_apart 7 = .ok (.iload_n 1, 1) := by decide +kernel
theorem dX11_apart_8 : decode cX11_apart 8 = .ok (.iload_n 2, 1) := by decide +kernel
theorem dX11_apart_9 : decode cX11_apart 9 = .ok (.if_icmp .eq 36, 3) := by decide +kernel
theorem dX11_apart_12 : decode cX11_apart 12 = .ok (.aload_n 0, 1) := by decide +kernel
theorem dX11_apart_13 : decode cX11_apart 13 = .ok (.iload_n 1, 1) := by decide +kernel
theorem dX11_apart_14 : decode cX11_apart 14 = .ok (.iload_n 3, 1) := by decide +kernel
theorem dX11_apart_15 : decode cX11_apart 15 = .ok (.iload 4, 2) := by decide +kernel
theorem dX11_apart_17 : decode cX11_apart 17 = .ok (.invokevirtual 268, 3) := by decide +kernel
theorem dX11_apart_20 : decode cX11_apart 20 = .ok (.ifCond .eq 25, 3) := by decide +kernel
theorem dX11_apart_23 : decode cX11_apart 23 = .ok (.aload_n 0, 1) := by decide +kernel
theorem dX11_apart_24 : decode cX11_apart 24 = .ok (.getfield 10, 3) := by decide +kernel
theorem dX11_apart_27 : decode cX11_apart 27 = .ok (.iload_n 2, 1) := by decide +kernel
theorem dX11_apart_28 : decode cX11_apart 28 = .ok (.invokevirtual 126, 3) := by decide +kernel
theorem dX11_apart_31 : decode cX11_apart 31 = .ok (.ifCond .eq 14, 3) := by decide +kernel
theorem dX11_apart_34 : decode cX11_apart 34 = .ok (.aload_n 0, 1) := by decide +kernel
theorem dX11_apart_35 : decode cX11_apart 35 = .ok (.getfield 53, 3) := by decide +kernel
theorem dX11_apart_38 : decode cX11_apart 38 = .ok (.iload_n 2, 1) := by decide +kernel
theorem dX11_apart_39 : decode cX11_apart 39 = .ok (.invokevirtual 279, 3) := by decide +kernel
theorem dX11_apart_42 : decode cX11_apart 42 = .ok (.ifCond .ne 5, 3) := by decide +kernel
theorem dX11_apart_45 : decode cX11_apart 45 = .ok (.iconst (-1), 1) := by decide +kernel
theorem dX11_apart_46 : decode cX11_apart 46 = .ok (.ireturn, 1) := by decide +kernel
theorem dX11_apart_47 : decode cX11_apart 47 = .ok (.aload_n 0, 1) := by decide +kernel
theorem dX11_apart_48 : decode cX11_apart 48 = .ok (.getfield 53, 3) := by decide +kernel
theorem dX11_apart_51 : decode cX11_apart 51 = .ok (.iload_n 1, 1) := by decide +kernel
theorem dX11_apart_52 : decode cX11_apart 52 = .ok (.iload_n 2, 1) := by decide +kernel
theorem dX11_apart_53 : decode cX11_apart 53 = .ok (.aload_n 0, 1) := by decide +kernel
theorem dX11_apart_54 : decode cX11_apart 54 = .ok (.getfield 68, 3) := by decide +kernel
theorem dX11_apart_57 : decode cX11_apart 57 = .ok (.invokevirtual 282, 3) := by decide +kernel
theorem dX11_apart_60 : decode cX11_apart 60 = .ok (.ifCond .eq 5, 3) := by decide +kernel
theorem dX11_apart_63 : decode cX11_apart 63 = .ok (.iconst 1, 1) := by decide +kernel
theorem dX11_apart_64 : decode cX11_apart 64 = .ok (.ireturn, 1) := by decide +kernel
theorem dX11_apart_65 : decode cX11_apart 65 = .ok (.aload_n 0, 1) := by decide +kernel
theorem dX11_apart_66 : decode cX11_apart 66 = .ok (.getfield 53, 3) := by decide +kernel
theorem dX11_apart_69 : decode cX11_apart 69 = .ok (.iload_n 2, 1) := by decide +kernel
theorem dX11_apart_70 : decode cX11_apart 70 = .ok (.iload_n 1, 1) := by decide +kernel
theorem dX11_apart_71 : decode cX11_apart 71 = .ok (.aload_n 0, 1) := by decide +kernel
theorem dX11_apart_72 : decode cX11_apart 72 = .ok (.getfield 68, 3) := by decide +kernel
theorem dX11_apart_75 : decode cX11_apart 75 = .ok (.invokevirtual 282, 3) := by decide +kernel
theorem dX11_apart_78 : decode cX11_apart 78 = .ok (.ifCond .eq 7, 3) := by decide +kernel
theorem dX11_apart_81 : decode cX11_apart 81 = .ok (.iconst 2, 1) := by decide +kernel
theorem dX11_apart_82 : decode cX11_apart 82 = .ok (.goto 4, 3) := by decide +kernel
theorem dX11_apart_85 : decode cX11_apart 85 = .ok (.iconst 0, 1) := by decide +kernel
theorem dX11_apart_86 : decode cX11_apart 86 = .ok (.ireturn, 1) := by decide +kernel
theorem dX11_order_0 : decode cX11_order 0 = .ok (.iload_n 1, 1) := by decide +kernel
theorem dX11_order_1 : decode cX11_order 1 = .ok (.invokestatic 86, 3) := by decide +kernel
theorem dX11_order_4 : decode cX11_order 4 = .ok (.ifCond .eq 21, 3) := by decide +kernel
theorem dX11_order_7 : decode cX11_order 7 = .ok (.iload_n 2, 1) := by decide +kernel
theorem dX11_order_8 : decode cX11_order 8 = .ok (.iload_n 3, 1) := by decide +kernel
theorem dX11_order_9 : decode cX11_order 9 = .ok (.invokestatic 285, 3) := by decide +kernel
theorem dX11_order_12 : decode cX11_order 12 = .ok (.ifCond .eq 13, 3) := by decide +kernel
theorem dX11_order_15 : decode cX11_order 15 = .ok (.iload 4, 2) := by decide +kernel
theorem dX11_order_17 : decode cX11_order 17 = .ok (.iconst 0, 1) := by decide +kernel
theorem dX11_order_18 : decode cX11_order 18 = .ok (.iconst 1, 1) := by decide +kernel
theorem dX11_order_19 : decode cX11_order 19 = .ok (.invokestatic 71, 3) := by decide +kernel
theorem dX11_order_22 : decode cX11_order 22 = .ok (.ifCond .ne 5, 3) := by decide +kernel
theorem dX11_order_25 : decode cX11_order 25 = .ok (.iconst (-1), 1) := by decide +kernel
theorem dX11_order_26 : decode cX11_order 26 = .ok (.ireturn, 1) := by decide +kernel
theorem dX11_order_27 : decode cX11_order 27 = .ok (.aload_n 0, 1) := by decide +kernel
theorem dX11_order_28 : decode cX11_order 28 = .ok (.getfield 53, 3) := by decide +kernel
theorem dX11_order_31 : decode cX11_order 31 = .ok (.invokevirtual 242, 3) := by decide +kernel
theorem dX11_order_34 : decode cX11_order 34 = .ok (.aload_n 0, 1) := by decide +kernel
theorem dX11_order_35 : decode cX11_order 35 = .ok (.getfield 53, 3) := by decide +kernel
theorem dX11_order_38 : decode cX11_order 38 = .ok (.iload_n 2, 1) := by decide +kernel
theorem dX11_order_39 : decode cX11_order 39 = .ok (.iload_n 3, 1) := by decide +kernel
theorem dX11_order_40 : decode cX11_order 40 = .ok (.invokevirtual 288, 3) := by decide +kernel
theorem dX11_order_43 : decode cX11_order 43 = .ok (.aload_n 0, 1) := by decide +kernel
theorem dX11_order_44 : decode cX11_order 44 = .ok (.getfield 53, 3) := by decide +kernel
theorem dX11_order_47 : decode cX11_order 47 = .ok (.iload_n 1, 1) := by decide +kernel
theorem dX11_order_48 : decode cX11_order 48 = .ok (.invokevirtual 291, 3) := by decide +kernel
theorem dX11_order_51 : decode cX11_order 51 = .ok (.ifCond .ne 5, 3) := by decide +kernel
theorem dX11_order_54 : decode cX11_order 54 = .ok (.iconst (-1), 1) := by decide +kernel
theorem dX11_order_55 : decode cX11_order 55 = .ok (.ireturn, 1) := by decide +kernel
theorem dX11_order_56 : decode cX11_order 56 = .ok (.iload 4, 2) := by decide +kernel
theorem dX11_order_58 : decode cX11_order 58 = .ok (.ifCond .ne 17, 3) := by decide +kernel
theorem dX11_order_61 : decode cX11_order 61 = .ok (.aload_n 0, 1) := by decide +kernel
theorem dX11_order_62 : decode cX11_order 62 = .ok (.getfield 53, 3) := by decide +kernel
theorem dX11_order_65 : decode cX11_order 65 = .ok (.aload_n 0, 1) := by decide +kernel
theorem dX11_order_66 : decode cX11_order 66 = .ok (.getfield 68, 3) := by decide +kernel
theorem dX11_order_69 : decode cX11_order 69 = .ok (.invokevirtual 294, 3) := by decide +kernel
theorem dX11_order_72 : decode cX11_order 72 = .ok (.goto 14, 3) := by decide +kernel
theorem dX11_order_75 : decode cX11_order 75 = .ok (.aload_n 0, 1) := by decide +kernel
theorem dX11_order_76 : decode cX11_order 76 = .ok (.getfield 53, 3) := by decide +kernel
theorem dX11_order_79 : decode cX11_order 79 = .ok (.aload_n 0, 1) := by decide +kernel
theorem dX11_order_80 : decode cX11_order 80 = .ok (.getfield 68, 3) := by decide +kernel
theorem dX11_order_83 : decode cX11_order 83 = .ok (.invokevirtual 297, 3) := by decide +kernel
theorem dX11_order_86 : decode cX11_order 86 = .ok (.ireturn, 1) := by decide +kernel
theorem dX11_enough_0 : decode cX11_enough 0 = .ok (.aload_n 0, 1) := by decide +kernel
theorem dX11_enough_1 : decode cX11_enough 1 = .ok (.getfield 53, 3) := by decide +kernel
theorem dX11_enough_4 : decode cX11_enough 4 = .ok (.invokevirtual 242, 3) := by decide +kernel
theorem dX11_enough_7 : decode cX11_enough 7 = .ok (.iload_n 1, 1) := by decide +kernel
theorem dX11_enough_8 : decode cX11_enough 8 = .ok (.iload_n 2, 1) := by decide +kernel
theorem dX11_enough_9 : decode cX11_enough 9 = .ok (.if_icmp .eq 36, 3) := by decide +kernel
theorem dX11_enough_12 : decode cX11_enough 12 = .ok (.aload_n 0, 1) := by decide +kernel
theorem dX11_enough_13 : decode cX11_enough 13 = .ok (.iload_n 1, 1) := by decide +kernel
theorem dX11_enough_14 : decode cX11_enough 14 = .ok (.iload_n 3, 1) := by decide +kernel
theorem dX11_enough_15 : decode cX11_enough 15 = .ok (.iload 4, 2) := by decide +kernel
theorem dX11_enough_17 : decode cX11_enough 17 = .ok (.invokevirtual 268, 3) := by decide +kernel
theorem dX11_enough_20 : decode cX11_enough 20 = .ok (.ifCond .eq 25, 3) := by decide +kernel
theorem dX11_enough_23 : decode cX11_enough 23 = .ok (.aload_n 0, 1) := by decide +kernel
theorem dX11_enough_24 : decode cX11_enough 24 = .ok (.getfield 10, 3) := by decide +kernel
theorem dX11_enough_27 : decode cX11_enough 27 = .ok (.iload_n 2, 1) := by decide +kernel
theorem dX11_enough_28 : decode cX11_enough 28 = .ok (.invokevirtual 126, 3) := by decide +kernel
theorem dX11_enough_31 : decode cX11_enough 31 = .ok (.ifCond .eq 14, 3) := by decide +kernel
theorem dX11_enough_34 : decode cX11_enough 34 = .ok (.aload_n 0, 1) := by decide +kernel
theorem dX11_enough_35 : decode cX11_enough 35 = .ok (.getfield 53, 3) := by decide +kernel
theorem dX11_enough_38 : decode cX11_enough 38 = .ok (.iload_n 2, 1) := by decide +kernel
theorem dX11_enough_39 : decode cX11_enough 39 = .ok (.invokevirtual 279, 3) := by decide +kernel
theorem dX11_enough_42 : decode cX11_enough 42 = .ok (.ifCond .ne 5, 3) := by decide +kernel
theorem dX11_enough_45 : decode cX11_enough 45 = .ok (.iconst (-1), 1) := by decide +kernel
theorem dX11_enough_46 : decode cX11_enough 46 = .ok (.ireturn, 1) := by decide +kernel
theorem dX11_enough_47 : decode cX11_enough 47 = .ok (.aload_n 0, 1) := by decide +kernel
theorem dX11_enough_48 : decode cX11_enough 48 = .ok (.getfield 53, 3) := by decide +kernel
theorem dX11_enough_51 : decode cX11_enough 51 = .ok (.iload_n 1, 1) := by decide +kernel
theorem dX11_enough_52 : decode cX11_enough 52 = .ok (.invokevirtual 273, 3) := by decide +kernel
theorem dX11_enough_55 : decode cX11_enough 55 = .ok (.aload_n 0, 1) := by decide +kernel
theorem dX11_enough_56 : decode cX11_enough 56 = .ok (.getfield 53, 3) := by decide +kernel
theorem dX11_enough_59 : decode cX11_enough 59 = .ok (.iload_n 2, 1) := by decide +kernel
theorem dX11_enough_60 : decode cX11_enough 60 = .ok (.invokevirtual 273, 3) := by decide +kernel
theorem dX11_enough_63 : decode cX11_enough 63 = .ok (.isub, 1) := by decide +kernel
theorem dX11_enough_64 : decode cX11_enough 64 = .ok (.invokestatic 300, 3) := by decide +kernel
theorem dX11_enough_67 : decode cX11_enough 67 = .ok (.istore 5, 2) := by decide +kernel
theorem dX11_enough_69 : decode cX11_enough 69 = .ok (.iconst 1, 1) := by decide +kernel
theorem dX11_enough_70 : decode cX11_enough 70 = .ok (.istore 6, 2) := by decide +kernel
theorem dX11_enough_72 : decode cX11_enough 72 = .ok (.iload 6, 2) := by decide +kernel
theorem dX11_enough_74 : decode cX11_enough 74 = .ok (.sipush 999, 3) := by decide +kernel
theorem dX11_enough_77 : decode cX11_enough 77 = .ok (.if_icmp .gt 29, 3) := by decide +kernel
theorem dX11_enough_80 : decode cX11_enough 80 = .ok (.iload 5, 2) := by decide +kernel
theorem dX11_enough_82 : decode cX11_enough 82 = .ok (.iconst 2, 1) := by decide +kernel
theorem dX11_enough_83 : decode cX11_enough 83 = .ok (.bipush 100, 2) := by decide +kernel
theorem dX11_enough_85 : decode cX11_enough 85 = .ok (.aload_n 0, 1) := by decide +kernel
theorem dX11_enough_86 : decode cX11_enough 86 = .ok (.getfield 68, 3) := by decide +kernel
theorem dX11_enough_89 : decode cX11_enough 89 = .ok (.imul, 1) := by decide +kernel
theorem dX11_enough_90 : decode cX11_enough 90 = .ok (.iload 6, 2) := by decide +kernel
theorem dX11_enough_92 : decode cX11_enough 92 = .ok (.idiv, 1) := by decide +kernel
theorem dX11_enough_93 : decode cX11_enough 93 = .ok (.imul, 1) := by decide +kernel
theorem dX11_enough_94 : decode cX11_enough 94 = .ok (.if_icmp .le 6, 3) := by decide +kernel
theorem dX11_enough_97 : decode cX11_enough 97 = .ok (.iload 6, 2) := by decide +kernel
theorem dX11_enough_99 : decode cX11_enough 99 = .ok (.ireturn, 1) := by decide +kernel
theorem dX11_enough_100 : decode cX11_enough 100 = .ok (.iinc 6 1, 3) := by decide +kernel
theorem dX11_enough_103 : decode cX11_enough 103 = .ok (.goto (-31), 3) := by decide +kernel
theorem dX11_enough_106 : decode cX11_enough 106 = .ok (.iconst (-1), 1) := by decide +kernel
theorem dX11_enough_107 : decode cX11_enough 107 = .ok (.ireturn, 1) := by decide +kernel
theorem dX11_may_0 : decode cX11_may 0 = .ok (.aload_n 0, 1) := by decide +kernel
theorem dX11_may_1 : decode cX11_may 1 = .ok (.getfield 10, 3) := by decide +kernel
theorem dX11_may_4 : decode cX11_may 4 = .ok (.iload_n 1, 1) := by decide +kernel
theorem dX11_may_5 : decode cX11_may 5 = .ok (.invokevirtual 129, 3) := by decide +kernel
theorem dX11_may_8 : decode cX11_may 8 = .ok (.ifCond .eq 21, 3) := by decide +kernel
theorem dX11_may_11 : decode cX11_may 11 = .ok (.aload_n 0, 1) := by decide +kernel
theorem dX11_may_12 : decode cX11_may 12 = .ok (.getfield 10, 3) := by decide +kernel
theorem dX11_may_15 : decode cX11_may 15 = .ok (.iload_n 2, 1) := by decide +kernel
theorem dX11_may_16 : decode cX11_may 16 = .ok (.invokevirtual 126, 3) := by decide +kernel
theorem dX11_may_19 : decode cX11_may 19 = .ok (.ifCond .eq 10, 3) := by decide +kernel
theorem dX11_may_22 : decode cX11_may 22 = .ok (.iload_n 3, 1) := by decide +kernel
theorem dX11_may_23 : decode cX11_may 23 = .ok (.invokestatic 184, 3) := by decide +kernel
theorem dX11_may_26 : decode cX11_may 26 = .ok (.ifCond .ne 5, 3) := by decide +kernel
theorem dX11_may_29 : decode cX11_may 29 = .ok (.iconst (-1), 1) := by decide +kernel
theorem dX11_may_30 : decode cX11_may 30 = .ok (.ireturn, 1) := by decide +kernel
theorem dX11_may_31 : decode cX11_may 31 = .ok (.aload_n 0, 1) := by decide +kernel
theorem dX11_may_32 : decode cX11_may 32 = .ok (.getfield 10, 3) := by decide +kernel
theorem dX11_may_35 : decode cX11_may 35 = .ok (.iload_n 1, 1) := by decide +kernel
theorem dX11_may_36 : decode cX11_may 36 = .ok (.iload_n 2, 1) := by decide +kernel
theorem dX11_may_37 : decode cX11_may 37 = .ok (.iload_n 3, 1) := by decide +kernel
theorem dX11_may_38 : decode cX11_may 38 = .ok (.invokevirtual 305, 3) := by decide +kernel
theorem dX11_may_41 : decode cX11_may 41 = .ok (.ifCond .eq 7, 3) := by decide +kernel
theorem dX11_may_44 : decode cX11_may 44 = .ok (.iconst 1, 1) := by decide +kernel
theorem dX11_may_45 : decode cX11_may 45 = .ok (.goto 4, 3) := by decide +kernel
theorem dX11_may_48 : decode cX11_may 48 = .ok (.iconst 0, 1) := by decide +kernel
theorem dX11_may_49 : decode cX11_may 49 = .ok (.ireturn, 1) := by decide +kernel
theorem dX11_given_0 : decode cX11_given 0 = .ok (.iload_n 1, 1) := by decide +kernel
theorem dX11_given_1 : decode cX11_given 1 = .ok (.ifCond .le 25, 3) := by decide +kernel
theorem dX11_given_4 : decode cX11_given 4 = .ok (.iload_n 1, 1) := by decide +kernel
theorem dX11_given_5 : decode cX11_given 5 = .ok (.iconst 1, 1) := by decide +kernel
theorem dX11_given_6 : decode cX11_given 6 = .ok (.aload_n 0, 1) := by decide +kernel
theorem dX11_given_7 : decode cX11_given 7 = .ok (.getfield 10, 3) := by decide +kernel
theorem dX11_given_10 : decode cX11_given 10 = .ok (.getfield 93, 3) := by decide +kernel
theorem dX11_given_13 : decode cX11_given 13 = .ok (.ishl, 1) := by decide +kernel
theorem dX11_given_14 : decode cX11_given 14 = .ok (.if_icmp .ge 12, 3) := by decide +kernel
theorem dX11_given_17 : decode cX11_given 17 = .ok (.iload_n 1, 1) := by decide +kernel
theorem dX11_given_18 : decode cX11_given 18 = .ok (.invokestatic 308, 3) := by decide +kernel
theorem dX11_given_21 : decode cX11_given 21 = .ok (.bipush 8, 2) := by decide +kernel
theorem dX11_given_23 : decode cX11_given 23 = .ok (.if_icmp .le 5, 3) := by decide +kernel
theorem dX11_given_26 : decode cX11_given 26 = .ok (.iconst (-1), 1) := by decide +kernel
theorem dX11_given_27 : decode cX11_given 27 = .ok (.ireturn, 1) := by decide +kernel
theorem dX11_given_28 : decode cX11_given 28 = .ok (.iload_n 2, 1) := by decide +kernel
theorem dX11_given_29 : decode cX11_given 29 = .ok (.invokestatic 184, 3) := by decide +kernel
theorem dX11_given_32 : decode cX11_given 32 = .ok (.ifCond .eq 13, 3) := by decide +kernel
theorem dX11_given_35 : decode cX11_given 35 = .ok (.iload_n 3, 1) := by decide +kernel
theorem dX11_given_36 : decode cX11_given 36 = .ok (.iconst 0, 1) := by decide +kernel
theorem dX11_given_37 : decode cX11_given 37 = .ok (.bipush 20, 2) := by decide +kernel
theorem dX11_given_39 : decode cX11_given 39 = .ok (.invokestatic 71, 3) := by decide +kernel
theorem dX11_given_42 : decode cX11_given 42 = .ok (.ifCond .ne 5, 3) := by decide +kernel
theorem dX11_given_45 : decode cX11_given 45 = .ok (.iconst (-1), 1) := by decide +kernel
theorem dX11_given_46 : decode cX11_given 46 = .ok (.ireturn, 1) := by decide +kernel
theorem dX11_given_47 : decode cX11_given 47 = .ok (.iload_n 3, 1) := by decide +kernel
theorem dX11_given_48 : decode cX11_given 48 = .ok (.bipush 20, 2) := by decide +kernel
theorem dX11_given_50 : decode cX11_given 50 = .ok (.if_icmp .ge 13, 3) := by decide +kernel
theorem dX11_given_53 : decode cX11_given 53 = .ok (.iload_n 1, 1) := by decide +kernel
theorem dX11_given_54 : decode cX11_given 54 = .ok (.iload_n 3, 1) := by decide +kernel
theorem dX11_given_55 : decode cX11_given 55 = .ok (.ishr, 1) := by decide +kernel
theorem dX11_given_56 : decode cX11_given 56 = .ok (.iconst 1, 1) := by decide +kernel
theorem dX11_given_57 : decode cX11_given 57 = .ok (.iand, 1) := by decide +kernel
theorem dX11_given_58 : decode cX11_given 58 = .ok (.ifCond .ne 5, 3) := by decide +kernel
theorem dX11_given_61 : decode cX11_given 61 = .ok (.iconst (-1), 1) := by decide +kernel
theorem dX11_given_62 : decode cX11_given 62 = .ok (.ireturn, 1) := by decide +kernel
theorem dX11_given_63 : decode cX11_given 63 = .ok (.aload_n 0, 1) := by decide +kernel
theorem dX11_given_64 : decode cX11_given 64 = .ok (.getfield 60, 3) := by decide +kernel
theorem dX11_given_67 : decode cX11_given 67 = .ok (.iload_n 1, 1) := by decide +kernel
theorem dX11_given_68 : decode cX11_given 68 = .ok (.iload_n 2, 1) := by decide +kernel
theorem dX11_given_69 : decode cX11_given 69 = .ok (.invokevirtual 313, 3) := by decide +kernel
theorem dX11_given_72 : decode cX11_given 72 = .ok (.ifCond .ne 5, 3) := by decide +kernel
theorem dX11_given_75 : decode cX11_given 75 = .ok (.iconst (-1), 1) := by decide +kernel
theorem dX11_given_76 : decode cX11_given 76 = .ok (.ireturn, 1) := by decide +kernel
theorem dX11_given_77 : decode cX11_given 77 = .ok (.iload_n 3, 1) := by decide +kernel
theorem dX11_given_78 : decode cX11_given 78 = .ok (.bipush 20, 2) := by decide +kernel
theorem dX11_given_80 : decode cX11_given 80 = .ok (.if_icmp .ne 13, 3) := by decide +kernel
theorem dX11_given_83 : decode cX11_given 83 = .ok (.aload_n 0, 1) := by decide +kernel
theorem dX11_given_84 : decode cX11_given 84 = .ok (.getfield 60, 3) := by decide +kernel
theorem dX11_given_87 : decode cX11_given 87 = .ok (.invokevirtual 316, 3) := by decide +kernel
theorem dX11_given_90 : decode cX11_given 90 = .ok (.goto 11, 3) := by decide +kernel
theorem dX11_given_93 : decode cX11_given 93 = .ok (.aload_n 0, 1) := by decide +kernel
theorem dX11_given_94 : decode cX11_given 94 = .ok (.getfield 60, 3) := by decide +kernel
theorem dX11_given_97 : decode cX11_given 97 = .ok (.iload_n 3, 1) := by decide +kernel
theorem dX11_given_98 : decode cX11_given 98 = .ok (.invokevirtual 319, 3) := by decide +kernel
theorem dX11_given_101 : decode cX11_given 101 = .ok (.ireturn, 1) := by decide +kernel
theorem dX11_drawn_0 : decode cX11_drawn 0 = .ok (.aload_n 0, 1) := by decide +kernel
theorem dX11_drawn_1 : decode cX11_drawn 1 = .ok (.getfield 10, 3) := by decide +kernel
theorem dX11_drawn_4 : decode cX11_drawn 4 = .ok (.iload_n 1, 1) := by decide +kernel
theorem dX11_drawn_5 : decode cX11_drawn 5 = .ok (.invokevirtual 126, 3) := by decide +kernel
theorem dX11_drawn_8 : decode cX11_drawn 8 = .ok (.ifCond .eq 18, 3) := by decide +kernel
theorem dX11_drawn_11 : decode cX11_drawn 11 = .ok (.iload_n 2, 1) := by decide +kernel
theorem dX11_drawn_12 : decode cX11_drawn 12 = .ok (.iconst 0, 1) := by decide +kernel
theorem dX11_drawn_13 : decode cX11_drawn 13 = .ok (.sipush 1427, 3) := by decide +kernel
theorem dX11_drawn_16 : decode cX11_drawn 16 = .ok (.invokestatic 71, 3) := by decide +kernel
theorem dX11_drawn_19 : decode cX11_drawn 19 = .ok (.ifCond .eq 7, 3) := by decide +kernel
theorem dX11_drawn_22 : decode cX11_drawn 22 = .ok (.iload_n 3, 1) := by decide +kernel
theorem dX11_drawn_23 : decode cX11_drawn 23 = .ok (.ifCond .ge 5, 3) := by decide +kernel
theorem dX11_drawn_26 : decode cX11_drawn 26 = .ok (.iconst (-1), 1) := by decide +kernel
theorem dX11_drawn_27 : decode cX11_drawn 27 = .ok (.ireturn, 1) := by decide +kernel
theorem dX11_drawn_28 : decode cX11_drawn 28 = .ok (.iload_n 3, 1) := by decide +kernel
theorem dX11_drawn_29 : decode cX11_drawn 29 = .ok (.i2l, 1) := by decide +kernel
theorem dX11_drawn_30 : decode cX11_drawn 30 = .ok (.lstore 4, 2) := by decide +kernel
theorem dX11_drawn_32 : decode cX11_drawn 32 = .ok (.iconst 0, 1) := by decide +kernel
theorem dX11_drawn_33 : decode cX11_drawn 33 = .ok (.istore 6, 2) := by decide +kernel
theorem dX11_drawn_35 : decode cX11_drawn 35 = .ok (.iload 6, 2) := by decide +kernel
theorem dX11_drawn_37 : decode cX11_drawn 37 = .ok (.iload_n 1, 1) := by decide +kernel
theorem dX11_drawn_38 : decode cX11_drawn 38 = .ok (.if_icmp .gt 25, 3) := by decide +kernel
theorem dX11_drawn_41 : decode cX11_drawn 41 = .ok (.lload 4, 2) := by decide +kernel
theorem dX11_drawn_43 : decode cX11_drawn 43 = .ok (.ldc2_w 322, 3) := by decide +kernel
theorem dX11_drawn_46 : decode cX11_drawn 46 = .ok (.lmul, 1) := by decide +kernel
theorem dX11_drawn_47 : decode cX11_drawn 47 = .ok (.ldc2_w 324, 3) := by decide +kernel
theorem dX11_drawn_50 : decode cX11_drawn 50 = .ok (.ladd, 1) := by decide +kernel
theorem dX11_drawn_51 : decode cX11_drawn 51 = .ok (.ldc2_w 326, 3) := by decide +kernel
theorem dX11_drawn_54 : decode cX11_drawn 54 = .ok (.lrem, 1) := by decide +kernel
theorem dX11_drawn_55 : decode cX11_drawn 55 = .ok (.lstore 4, 2) := by decide +kernel
theorem dX11_drawn_57 : decode cX11_drawn 57 = .ok (.iinc 6 1, 3) := by decide +kernel
theorem dX11_drawn_60 : decode cX11_drawn 60 = .ok (.goto (-25), 3) := by decide +kernel
theorem dX11_drawn_63 : decode cX11_drawn 63 = .ok (.lload 4, 2) := by decide +kernel
theorem dX11_drawn_65 : decode cX11_drawn 65 = .ok (.ldc2_w 328, 3) := by decide +kernel
theorem dX11_drawn_68 : decode cX11_drawn 68 = .ok (.ldiv, 1) := by decide +kernel
theorem dX11_drawn_69 : decode cX11_drawn 69 = .ok (.l2i, 1) := by decide +kernel
theorem dX11_drawn_70 : decode cX11_drawn 70 = .ok (.istore 6, 2) := by decide +kernel
theorem dX11_drawn_72 : decode cX11_drawn 72 = .ok (.aload_n 0, 1) := by decide +kernel
theorem dX11_drawn_73 : decode cX11_drawn 73 = .ok (.getfield 10, 3) := by decide +kernel
theorem dX11_drawn_76 : decode cX11_drawn 76 = .ok (.iload_n 1, 1) := by decide +kernel
theorem dX11_drawn_77 : decode cX11_drawn 77 = .ok (.invokevirtual 330, 3) := by decide +kernel
theorem dX11_drawn_80 : decode cX11_drawn 80 = .ok (.astore 7, 2) := by decide +kernel
theorem dX11_drawn_82 : decode cX11_drawn 82 = .ok (.aload 7, 2) := by decide +kernel
theorem dX11_drawn_84 : decode cX11_drawn 84 = .ok (.ifnonnull 14, 3) := by decide +kernel
theorem dX11_drawn_87 : decode cX11_drawn 87 = .ok (.iload_n 2, 1) := by decide +kernel
theorem dX11_drawn_88 : decode cX11_drawn 88 = .ok (.bipush 7, 2) := by decide +kernel
theorem dX11_drawn_90 : decode cX11_drawn 90 = .ok (.imul, 1) := by decide +kernel
theorem dX11_drawn_91 : decode cX11_drawn 91 = .ok (.iload 6, 2) := by decide +kernel
theorem dX11_drawn_93 : decode cX11_drawn 93 = .ok (.bipush 7, 2) := by decide +kernel
theorem dX11_drawn_95 : decode cX11_drawn 95 = .ok (.irem, 1) := by decide +kernel
theorem dX11_drawn_96 : decode cX11_drawn 96 = .ok (.iadd, 1) := by decide +kernel
theorem dX11_drawn_97 : decode cX11_drawn 97 = .ok (.ireturn, 1) := by decide +kernel
theorem dX11_drawn_98 : decode cX11_drawn 98 = .ok (.iload 6, 2) := by decide +kernel
theorem dX11_drawn_100 : decode cX11_drawn 100 = .ok (.bipush 6, 2) := by decide +kernel
theorem dX11_drawn_102 : decode cX11_drawn 102 = .ok (.irem, 1) := by decide +kernel
theorem dX11_drawn_103 : decode cX11_drawn 103 = .ok (.istore 8, 2) := by decide +kernel
theorem dX11_drawn_105 : decode cX11_drawn 105 = .ok (.aload 7, 2) := by decide +kernel
theorem dX11_drawn_107 : decode cX11_drawn 107 = .ok (.getfield 334, 3) := by decide +kernel
theorem dX11_drawn_110 : decode cX11_drawn 110 = .ok (.bipush 7, 2) := by decide +kernel
theorem dX11_drawn_112 : decode cX11_drawn 112 = .ok (.irem, 1) := by decide +kernel
theorem dX11_drawn_113 : decode cX11_drawn 113 = .ok (.istore 9, 2) := by decide +kernel
theorem dX11_drawn_115 : decode cX11_drawn 115 = .ok (.iload_n 2, 1) := by decide +kernel
theorem dX11_drawn_116 : decode cX11_drawn 116 = .ok (.bipush 7, 2) := by decide +kernel
theorem dX11_drawn_118 : decode cX11_drawn 118 = .ok (.imul, 1) := by decide +kernel
theorem dX11_drawn_119 : decode cX11_drawn 119 = .ok (.iload 8, 2) := by decide +kernel
theorem dX11_drawn_121 : decode cX11_drawn 121 = .ok (.iload 9, 2) := by decide +kernel
theorem dX11_drawn_123 : decode cX11_drawn 123 = .ok (.if_icmp .ge 8, 3) := by decide +kernel
theorem dX11_drawn_126 : decode cX11_drawn 126 = .ok (.iload 8, 2) := by decide +kernel
theorem dX11_drawn_128 : decode cX11_drawn 128 = .ok (.goto 7, 3) := by decide +kernel
theorem dX11_drawn_131 : decode cX11_drawn 131 = .ok (.iload 8, 2) := by decide +kernel
theorem dX11_drawn_133 : decode cX11_drawn 133 = .ok (.iconst 1, 1) := by decide +kernel
theorem dX11_drawn_134 : decode cX11_drawn 134 = .ok (.iadd, 1) := by decide +kernel
theorem dX11_drawn_135 : decode cX11_drawn 135 = .ok (.iadd, 1) := by decide +kernel
theorem dX11_drawn_136 : decode cX11_drawn 136 = .ok (.ireturn, 1) := by decide +kernel
theorem dX11_sway_0 : decode cX11_sway 0 = .ok (.aload_n 0, 1) := by decide +kernel
theorem dX11_sway_1 : decode cX11_sway 1 = .ok (.getfield 10, 3) := by decide +kernel
theorem dX11_sway_4 : decode cX11_sway 4 = .ok (.iload_n 1, 1) := by decide +kernel
theorem dX11_sway_5 : decode cX11_sway 5 = .ok (.invokevirtual 126, 3) := by decide +kernel
theorem dX11_sway_8 : decode cX11_sway 8 = .ok (.ifCond .eq 12, 3) := by decide +kernel
theorem dX11_sway_11 : decode cX11_sway 11 = .ok (.iload_n 2, 1) := by decide +kernel
theorem dX11_sway_12 : decode cX11_sway 12 = .ok (.iconst 0, 1) := by decide +kernel
theorem dX11_sway_13 : decode cX11_sway 13 = .ok (.iconst 1, 1) := by decide +kernel
theorem dX11_sway_14 : decode cX11_sway 14 = .ok (.invokestatic 71, 3) := by decide +kernel
theorem dX11_sway_17 : decode cX11_sway 17 = .ok (.ifCond .ne 5, 3) := by decide +kernel
theorem dX11_sway_20 : decode cX11_sway 20 = .ok (.iconst (-1), 1) := by decide +kernel
theorem dX11_sway_21 : decode cX11_sway 21 = .ok (.ireturn, 1) := by decide +kernel
theorem dX11_sway_22 : decode cX11_sway 22 = .ok (.aload_n 0, 1) := by decide +kernel
theorem dX11_sway_23 : decode cX11_sway 23 = .ok (.getfield 10, 3) := by decide +kernel
theorem dX11_sway_26 : decode cX11_sway 26 = .ok (.iload_n 1, 1) := by decide +kernel
theorem dX11_sway_27 : decode cX11_sway 27 = .ok (.invokevirtual 330, 3) := by decide +kernel
theorem dX11_sway_30 : decode cX11_sway 30 = .ok (.astore_n 3, 1) := by decide +kernel
theorem dX11_sway_31 : decode cX11_sway 31 = .ok (.aload_n 3, 1) := by decide +kernel
theorem dX11_sway_32 : decode cX11_sway 32 = .ok (.ifnonnull 5, 3) := by decide +kernel
theorem dX11_sway_35 : decode cX11_sway 35 = .ok (.iconst (-1), 1) := by decide +kernel
theorem dX11_sway_36 : decode cX11_sway 36 = .ok (.ireturn, 1) := by decide +kernel
theorem dX11_sway_37 : decode cX11_sway 37 = .ok (.aload_n 0, 1) := by decide +kernel
theorem dX11_sway_38 : decode cX11_sway 38 = .ok (.getfield 44, 3) := by decide +kernel
theorem dX11_sway_41 : decode cX11_sway 41 = .ok (.invokevirtual 230, 3) := by decide +kernel
theorem dX11_sway_44 : decode cX11_sway 44 = .ok (.iconst (-1), 1) := by decide +kernel
theorem dX11_sway_45 : decode cX11_sway 45 = .ok (.istore 4, 2) := by decide +kernel
theorem dX11_sway_47 : decode cX11_sway 47 = .ok (.iconst 0, 1) := by decide +kernel
theorem dX11_sway_48 : decode cX11_sway 48 = .ok (.istore 5, 2) := by decide +kernel
theorem dX11_sway_50 : decode cX11_sway 50 = .ok (.iconst 0, 1) := by decide +kernel
theorem dX11_sway_51 : decode cX11_sway 51 = .ok (.istore 6, 2) := by decide +kernel
theorem dX11_sway_53 : decode cX11_sway 53 = .ok (.iload 6, 2) := by decide +kernel
theorem dX11_sway_55 : decode cX11_sway 55 = .ok (.bipush 12, 2) := by decide +kernel
theorem dX11_sway_57 : decode cX11_sway 57 = .ok (.if_icmp .ge 51, 3) := by decide +kernel
theorem dX11_sway_60 : decode cX11_sway 60 = .ok (.aload_n 0, 1) := by decide +kernel
theorem dX11_sway_61 : decode cX11_sway 61 = .ok (.getfield 44, 3) := by decide +kernel
theorem dX11_sway_64 : decode cX11_sway 64 = .ok (.aload_n 3, 1) := by decide +kernel
theorem dX11_sway_65 : decode cX11_sway 65 = .ok (.aload_n 3, 1) := by decide +kernel
theorem dX11_sway_66 : decode cX11_sway 66 = .ok (.getfield 217, 3) := by decide +kernel
theorem dX11_sway_69 : decode cX11_sway 69 = .ok (.iconst 1, 1) := by decide +kernel
theorem dX11_sway_70 : decode cX11_sway 70 = .ok (.iload 6, 2) := by decide +kernel
theorem dX11_sway_72 : decode cX11_sway 72 = .ok (.ishl, 1) := by decide +kernel
theorem dX11_sway_73 : decode cX11_sway 73 = .ok (.ixor, 1) := by decide +kernel
theorem dX11_sway_74 : decode cX11_sway 74 = .ok (.invokevirtual 337, 3) := by decide +kernel
theorem dX11_sway_77 : decode cX11_sway 77 = .ok (.aload_n 3, 1) := by decide +kernel
theorem dX11_sway_78 : decode cX11_sway 78 = .ok (.getfield 234, 3) := by decide +kernel
theorem dX11_sway_81 : decode cX11_sway 81 = .ok (.isub, 1) := by decide +kernel
theorem dX11_sway_82 : decode cX11_sway 82 = .ok (.invokestatic 300, 3) := by decide +kernel
theorem dX11_sway_85 : decode cX11_sway 85 = .ok (.istore 7, 2) := by decide +kernel
theorem dX11_sway_87 : decode cX11_sway 87 = .ok (.iload 7, 2) := by decide +kernel
theorem dX11_sway_89 : decode cX11_sway 89 = .ok (.iload 5, 2) := by decide +kernel
theorem dX11_sway_91 : decode cX11_sway 91 = .ok (.if_icmp .le 11, 3) := by decide +kernel
theorem dX11_sway_94 : decode cX11_sway 94 = .ok (.iload 7, 2) := by decide +kernel
theorem dX11_sway_96 : decode cX11_sway 96 = .ok (.istore 5, 2) := by decide +kernel
theorem dX11_sway_98 : decode cX11_sway 98 = .ok (.iload 6, 2) := by decide +kernel
theorem dX11_sway_100 : decode cX11_sway 100 = .ok (.istore 4, 2) := by decide +kernel
theorem dX11_sway_102 : decode cX11_sway 102 = .ok (.iinc 6 1, 3) := by decide +kernel
theorem dX11_sway_105 : decode cX11_sway 105 = .ok (.goto (-52), 3) := by decide +kernel
theorem dX11_sway_108 : decode cX11_sway 108 = .ok (.iload 4, 2) := by decide +kernel
theorem dX11_sway_110 : decode cX11_sway 110 = .ok (.iconst (-1), 1) := by decide +kernel
theorem dX11_sway_111 : decode cX11_sway 111 = .ok (.if_icmp .eq 7, 3) := by decide +kernel
theorem dX11_sway_114 : decode cX11_sway 114 = .ok (.iload_n 2, 1) := by decide +kernel
theorem dX11_sway_115 : decode cX11_sway 115 = .ok (.ifCond .ne 8, 3) := by decide +kernel
theorem dX11_sway_118 : decode cX11_sway 118 = .ok (.iload 4, 2) := by decide +kernel
theorem dX11_sway_120 : decode cX11_sway 120 = .ok (.goto 5, 3) := by decide +kernel
theorem dX11_sway_123 : decode cX11_sway 123 = .ok (.iload 5, 2) := by decide +kernel
theorem dX11_sway_125 : decode cX11_sway 125 = .ok (.ireturn, 1) := by decide +kernel
theorem dX11_sum_0 : decode cX11_sum 0 = .ok (.iload_n 3, 1) := by decide +kernel
theorem dX11_sum_1 : decode cX11_sum 1 = .ok (.iload 4, 2) := by decide +kernel
theorem dX11_sum_3 : decode cX11_sum 3 = .ok (.invokestatic 285, 3) := by decide +kernel
theorem dX11_sum_6 : decode cX11_sum 6 = .ok (.ifCond .ne 5, 3) := by decide +kernel
theorem dX11_sum_9 : decode cX11_sum 9 = .ok (.iconst (-1), 1) := by decide +kernel
theorem dX11_sum_10 : decode cX11_sum 10 = .ok (.ireturn, 1) := by decide +kernel
theorem dX11_sum_11 : decode cX11_sum 11 = .ok (.iload_n 1, 1) := by decide +kernel
theorem dX11_sum_12 : decode cX11_sum 12 = .ok (.ifCond .ne 19, 3) := by decide +kernel
theorem dX11_sum_15 : decode cX11_sum 15 = .ok (.iload_n 2, 1) := by decide +kernel
theorem dX11_sum_16 : decode cX11_sum 16 = .ok (.invokestatic 86, 3) := by decide +kernel
theorem dX11_sum_19 : decode cX11_sum 19 = .ok (.ifCond .eq 12, 3) := by decide +kernel
theorem dX11_sum_22 : decode cX11_sum 22 = .ok (.aload_n 0, 1) := by decide +kernel
theorem dX11_sum_23 : decode cX11_sum 23 = .ok (.iload_n 2, 1) := by decide +kernel
theorem dX11_sum_24 : decode cX11_sum 24 = .ok (.iload_n 3, 1) := by decide +kernel
theorem dX11_sum_25 : decode cX11_sum 25 = .ok (.iload 4, 2) := by decide +kernel
theorem dX11_sum_27 : decode cX11_sum 27 = .ok (.invokevirtual 341, 3) := by decide +kernel
theorem dX11_sum_30 : decode cX11_sum 30 = .ok (.ireturn, 1) := by decide +kernel
theorem dX11_sum_31 : decode cX11_sum 31 = .ok (.iload_n 1, 1) := by decide +kernel
theorem dX11_sum_32 : decode cX11_sum 32 = .ok (.iconst 1, 1) := by decide +kernel
theorem dX11_sum_33 : decode cX11_sum 33 = .ok (.if_icmp .ne 23, 3) := by decide +kernel
theorem dX11_sum_36 : decode cX11_sum 36 = .ok (.aload_n 0, 1) := by decide +kernel
theorem dX11_sum_37 : decode cX11_sum 37 = .ok (.getfield 10, 3) := by decide +kernel
theorem dX11_sum_40 : decode cX11_sum 40 = .ok (.iload_n 2, 1) := by decide +kernel
theorem dX11_sum_41 : decode cX11_sum 41 = .ok (.invokevirtual 129, 3) := by decide +kernel
theorem dX11_sum_44 : decode cX11_sum 44 = .ok (.ifCond .eq 12, 3) := by decide +kernel
theorem dX11_sum_47 : decode cX11_sum 47 = .ok (.aload_n 0, 1) := by decide +kernel
theorem dX11_sum_48 : decode cX11_sum 48 = .ok (.iload_n 2, 1) := by decide +kernel
theorem dX11_sum_49 : decode cX11_sum 49 = .ok (.iload_n 3, 1) := by decide +kernel
theorem dX11_sum_50 : decode cX11_sum 50 = .ok (.iload 4, 2) := by decide +kernel
theorem dX11_sum_52 : decode cX11_sum 52 = .ok (.invokevirtual 344, 3) := by decide +kernel
theorem dX11_sum_55 : decode cX11_sum 55 = .ok (.ireturn, 1) := by decide +kernel
theorem dX11_sum_56 : decode cX11_sum 56 = .ok (.iconst (-1), 1) := by decide +kernel
theorem dX11_sum_57 : decode cX11_sum 57 = .ok (.ireturn, 1) := by decide +kernel
theorem dX11_count_0 : decode cX11_count 0 = .ok (.iload_n 1, 1) := by decide +kernel
theorem dX11_count_1 : decode cX11_count 1 = .ok (.tableswitch 141 0 11 #[63, 71, 79, 87, 95, 103, 135, 111, 119, 127, 135, 135], 63) := by decide +kernel
theorem dX11_count_64 : decode cX11_count 64 = .ok (.aload_n 0, 1) := by decide +kernel
theorem dX11_count_65 : decode cX11_count 65 = .ok (.getfield 10, 3) := by decide +kernel
theorem dX11_count_68 : decode cX11_count 68 = .ok (.getfield 75, 3) := by decide +kernel
theorem dX11_count_71 : decode cX11_count 71 = .ok (.ireturn, 1) := by decide +kernel
theorem dX11_count_72 : decode cX11_count 72 = .ok (.aload_n 0, 1) := by decide +kernel
theorem dX11_count_73 : decode cX11_count 73 = .ok (.getfield 10, 3) := by decide +kernel
theorem dX11_count_76 : decode cX11_count 76 = .ok (.invokevirtual 347, 3) := by decide +kernel
theorem dX11_count_79 : decode cX11_count 79 = .ok (.ireturn, 1) := by decide +kernel
theorem dX11_count_80 : decode cX11_count 80 = .ok (.aload_n 0, 1) := by decide +kernel
theorem dX11_count_81 : decode cX11_count 81 = .ok (.getfield 10, 3) := by decide +kernel
theorem dX11_count_84 : decode cX11_count 84 = .ok (.getfield 93, 3) := by decide +kernel
theorem dX11_count_87 : decode cX11_count 87 = .ok (.ireturn, 1) := by decide +kernel
theorem dX11_count_88 : decode cX11_count 88 = .ok (.aload_n 0, 1) := by decide +kernel
theorem dX11_count_89 : decode cX11_count 89 = .ok (.getfield 10, 3) := by decide +kernel
theorem dX11_count_92 : decode cX11_count 92 = .ok (.getfield 110, 3) := by decide +kernel
theorem dX11_count_95 : decode cX11_count 95 = .ok (.ireturn, 1) := by decide +kernel
theorem dX11_count_96 : decode cX11_count 96 = .ok (.aload_n 0, 1) := by decide +kernel
theorem dX11_count_97 : decode cX11_count 97 = .ok (.getfield 10, 3) := by decide +kernel
theorem dX11_count_100 : decode cX11_count 100 = .ok (.getfield 132, 3) := by decide +kernel
theorem dX11_count_103 : decode cX11_count 103 = .ok (.ireturn, 1) := by decide +kernel
theorem dX11_count_104 : decode cX11_count 104 = .ok (.aload_n 0, 1) := by decide +kernel
theorem dX11_count_105 : decode cX11_count 105 = .ok (.getfield 10, 3) := by decide +kernel
theorem dX11_count_108 : decode cX11_count 108 = .ok (.invokevirtual 350, 3) := by decide +kernel
theorem dX11_count_111 : decode cX11_count 111 = .ok (.ireturn, 1) := by decide +kernel
theorem dX11_count_112 : decode cX11_count 112 = .ok (.aload_n 0, 1) := by decide +kernel
theorem dX11_count_113 : decode cX11_count 113 = .ok (.getfield 10, 3) := by decide +kernel
theorem dX11_count_116 : decode cX11_count 116 = .ok (.getfield 170, 3) := by decide +kernel
theorem dX11_count_119 : decode cX11_count 119 = .ok (.ireturn, 1) := by decide +kernel
theorem dX11_count_120 : decode cX11_count 120 = .ok (.aload_n 0, 1) := by decide +kernel
theorem dX11_count_121 : decode cX11_count 121 = .ok (.getfield 10, 3) := by decide +kernel
theorem dX11_count_124 : decode cX11_count 124 = .ok (.getfield 187, 3) := by decide +kernel
theorem dX11_count_127 : decode cX11_count 127 = .ok (.ireturn, 1) := by decide +kernel
theorem dX11_count_128 : decode cX11_count 128 = .ok (.aload_n 0, 1) := by decide +kernel
theorem dX11_count_129 : decode cX11_count 129 = .ok (.getfield 19, 3) := by decide +kernel
theorem dX11_count_132 : decode cX11_count 132 = .ok (.getfield 181, 3) := by decide +kernel
theorem dX11_count_135 : decode cX11_count 135 = .ok (.ireturn, 1) := by decide +kernel
theorem dX11_count_136 : decode cX11_count 136 = .ok (.aload_n 0, 1) := by decide +kernel
theorem dX11_count_137 : decode cX11_count 137 = .ok (.iload_n 1, 1) := by decide +kernel
theorem dX11_count_138 : decode cX11_count 138 = .ok (.invokevirtual 353, 3) := by decide +kernel
theorem dX11_count_141 : decode cX11_count 141 = .ok (.ireturn, 1) := by decide +kernel
theorem dX11_count_142 : decode cX11_count 142 = .ok (.iconst (-1), 1) := by decide +kernel
theorem dX11_count_143 : decode cX11_count 143 = .ok (.ireturn, 1) := by decide +kernel
theorem dX11_countTruth_0 : decode cX11_countTruth 0 = .ok (.aload_n 0, 1) := by decide +kernel
theorem dX11_countTruth_1 : decode cX11_countTruth 1 = .ok (.getfield 37, 3) := by decide +kernel
theorem dX11_countTruth_4 : decode cX11_countTruth 4 = .ok (.invokevirtual 220, 3) := by decide +kernel
theorem dX11_countTruth_7 : decode cX11_countTruth 7 = .ok (.iload_n 1, 1) := by decide +kernel
theorem dX11_countTruth_8 : decode cX11_countTruth 8 = .ok (.bipush 6, 2) := by decide +kernel
theorem dX11_countTruth_10 : decode cX11_countTruth 10 = .ok (.if_icmp .ne 13, 3) := by decide +kernel
theorem dX11_countTruth_13 : decode cX11_countTruth 13 = .ok (.aload_n 0, 1) := by decide +kernel
theorem dX11_countTruth_14 : decode cX11_countTruth 14 = .ok (.getfield 37, 3) := by decide +kernel
theorem dX11_countTruth_17 : decode cX11_countTruth 17 = .ok (.getfield 356, 3) := by decide +kernel
theorem dX11_countTruth_20 : decode cX11_countTruth 20 = .ok (.goto 26, 3) := by decide +kernel
theorem dX11_countTruth_23 : decode cX11_countTruth 23 = .ok (.iload_n 1, 1) := by decide +kernel
theorem dX11_countTruth_24 : decode cX11_countTruth 24 = .ok (.bipush 10, 2) := by decide +kernel
theorem dX11_countTruth_26 : decode cX11_countTruth 26 = .ok (.if_icmp .ne 13, 3) := by decide +kernel
theorem dX11_countTruth_29 : decode cX11_countTruth 29 = .ok (.aload_n 0, 1) := by decide +kernel
theorem dX11_countTruth_30 : decode cX11_countTruth 30 = .ok (.getfield 37, 3) := by decide +kernel
theorem dX11_countTruth_33 : decode cX11_countTruth 33 = .ok (.getfield 359, 3) := by decide +kernel
theorem dX11_countTruth_36 : decode cX11_countTruth 36 = .ok (.goto 10, 3) := by decide +kernel
theorem dX11_countTruth_39 : decode cX11_countTruth 39 = .ok (.aload_n 0, 1) := by decide +kernel
theorem dX11_countTruth_40 : decode cX11_countTruth 40 = .ok (.getfield 37, 3) := by decide +kernel
theorem dX11_countTruth_43 : decode cX11_countTruth 43 = .ok (.getfield 362, 3) := by decide +kernel
theorem dX11_countTruth_46 : decode cX11_countTruth 46 = .ok (.ireturn, 1) := by decide +kernel
theorem dX11_hasMean_0 : decode cX11_hasMean 0 = .ok (.aload_n 0, 1) := by decide +kernel
theorem dX11_hasMean_1 : decode cX11_hasMean 1 = .ok (.getfield 10, 3) := by decide +kernel
theorem dX11_hasMean_4 : decode cX11_hasMean 4 = .ok (.iload_n 1, 1) := by decide +kernel
theorem dX11_hasMean_5 : decode cX11_hasMean 5 = .ok (.invokevirtual 126, 3) := by decide +kernel
theorem dX11_hasMean_8 : decode cX11_hasMean 8 = .ok (.ifCond .eq 11, 3) := by decide +kernel
