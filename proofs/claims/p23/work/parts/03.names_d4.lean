theorem dX12_buyer_33 : decode cX12_buyer 33 = .ok (.iastore, 1) := by decide +kernel
theorem dX12_buyer_34 : decode cX12_buyer 34 = .ok (.aload_n 0, 1) := by decide +kernel
theorem dX12_buyer_35 : decode cX12_buyer 35 = .ok (.getfield 131, 3) := by decide +kernel
theorem dX12_buyer_38 : decode cX12_buyer 38 = .ok (.aload_n 0, 1) := by decide +kernel
theorem dX12_buyer_39 : decode cX12_buyer 39 = .ok (.getfield 369, 3) := by decide +kernel
theorem dX12_buyer_42 : decode cX12_buyer 42 = .ok (.iload_n 2, 1) := by decide +kernel
theorem dX12_buyer_43 : decode cX12_buyer 43 = .ok (.iastore, 1) := by decide +kernel
theorem dX12_buyer_44 : decode cX12_buyer 44 = .ok (.aload_n 0, 1) := by decide +kernel
theorem dX12_buyer_45 : decode cX12_buyer 45 = .ok (.dup, 1) := by decide +kernel
theorem dX12_buyer_46 : decode cX12_buyer 46 = .ok (.getfield 369, 3) := by decide +kernel
theorem dX12_buyer_49 : decode cX12_buyer 49 = .ok (.iconst 1, 1) := by decide +kernel
theorem dX12_buyer_50 : decode cX12_buyer 50 = .ok (.iadd, 1) := by decide +kernel
theorem dX12_buyer_51 : decode cX12_buyer 51 = .ok (.putfield 369, 3) := by decide +kernel
theorem dX12_buyer_54 : decode cX12_buyer 54 = .ok (.aload_n 0, 1) := by decide +kernel
theorem dX12_buyer_55 : decode cX12_buyer 55 = .ok (.getfield 369, 3) := by decide +kernel
theorem dX12_buyer_58 : decode cX12_buyer 58 = .ok (.iconst 1, 1) := by decide +kernel
theorem dX12_buyer_59 : decode cX12_buyer 59 = .ok (.isub, 1) := by decide +kernel
theorem dX12_buyer_60 : decode cX12_buyer 60 = .ok (.ireturn, 1) := by decide +kernel
theorem dX12_terms_0 : decode cX12_terms 0 = .ok (.aload_n 0, 1) := by decide +kernel
theorem dX12_terms_1 : decode cX12_terms 1 = .ok (.iconst 0, 1) := by decide +kernel
theorem dX12_terms_2 : decode cX12_terms 2 = .ok (.putfield 1, 3) := by decide +kernel
theorem dX12_terms_5 : decode cX12_terms 5 = .ok (.iload_n 1, 1) := by decide +kernel
theorem dX12_terms_6 : decode cX12_terms 6 = .ok (.iconst 1, 1) := by decide +kernel
theorem dX12_terms_7 : decode cX12_terms 7 = .ok (.bipush 60, 2) := by decide +kernel
theorem dX12_terms_9 : decode cX12_terms 9 = .ok (.invokestatic 358, 3) := by decide +kernel
theorem dX12_terms_12 : decode cX12_terms 12 = .ok (.ifCond .eq 25, 3) := by decide +kernel
theorem dX12_terms_15 : decode cX12_terms 15 = .ok (.iload_n 2, 1) := by decide +kernel
theorem dX12_terms_16 : decode cX12_terms 16 = .ok (.iconst 0, 1) := by decide +kernel
theorem dX12_terms_17 : decode cX12_terms 17 = .ok (.sipush 999, 3) := by decide +kernel
theorem dX12_terms_20 : decode cX12_terms 20 = .ok (.invokestatic 358, 3) := by decide +kernel
theorem dX12_terms_23 : decode cX12_terms 23 = .ok (.ifCond .eq 14, 3) := by decide +kernel
theorem dX12_terms_26 : decode cX12_terms 26 = .ok (.iload_n 3, 1) := by decide +kernel
theorem dX12_terms_27 : decode cX12_terms 27 = .ok (.iconst 0, 1) := by decide +kernel
theorem dX12_terms_28 : decode cX12_terms 28 = .ok (.sipush 1000, 3) := by decide +kernel
theorem dX12_terms_31 : decode cX12_terms 31 = .ok (.invokestatic 358, 3) := by decide +kernel
theorem dX12_terms_34 : decode cX12_terms 34 = .ok (.ifCond .ne 5, 3) := by decide +kernel
theorem dX12_terms_37 : decode cX12_terms 37 = .ok (.iconst 0, 1) := by decide +kernel
theorem dX12_terms_38 : decode cX12_terms 38 = .ok (.ireturn, 1) := by decide +kernel
theorem dX12_terms_39 : decode cX12_terms 39 = .ok (.aload_n 0, 1) := by decide +kernel
theorem dX12_terms_40 : decode cX12_terms 40 = .ok (.iload_n 1, 1) := by decide +kernel
theorem dX12_terms_41 : decode cX12_terms 41 = .ok (.putfield 219, 3) := by decide +kernel
theorem dX12_terms_44 : decode cX12_terms 44 = .ok (.aload_n 0, 1) := by decide +kernel
theorem dX12_terms_45 : decode cX12_terms 45 = .ok (.iload_n 2, 1) := by decide +kernel
theorem dX12_terms_46 : decode cX12_terms 46 = .ok (.putfield 222, 3) := by decide +kernel
theorem dX12_terms_49 : decode cX12_terms 49 = .ok (.aload_n 0, 1) := by decide +kernel
theorem dX12_terms_50 : decode cX12_terms 50 = .ok (.iload_n 3, 1) := by decide +kernel
theorem dX12_terms_51 : decode cX12_terms 51 = .ok (.putfield 225, 3) := by decide +kernel
theorem dX12_terms_54 : decode cX12_terms 54 = .ok (.iconst 1, 1) := by decide +kernel
theorem dX12_terms_55 : decode cX12_terms 55 = .ok (.ireturn, 1) := by decide +kernel
theorem dX12_rest_0 : decode cX12_rest 0 = .ok (.aload_n 0, 1) := by decide +kernel
theorem dX12_rest_1 : decode cX12_rest 1 = .ok (.iconst 0, 1) := by decide +kernel
theorem dX12_rest_2 : decode cX12_rest 2 = .ok (.putfield 1, 3) := by decide +kernel
theorem dX12_rest_5 : decode cX12_rest 5 = .ok (.iload_n 1, 1) := by decide +kernel
theorem dX12_rest_6 : decode cX12_rest 6 = .ok (.iconst 0, 1) := by decide +kernel
theorem dX12_rest_7 : decode cX12_rest 7 = .ok (.sipush 400, 3) := by decide +kernel
theorem dX12_rest_10 : decode cX12_rest 10 = .ok (.invokestatic 358, 3) := by decide +kernel
theorem dX12_rest_13 : decode cX12_rest 13 = .ok (.ifCond .eq 14, 3) := by decide +kernel
theorem dX12_rest_16 : decode cX12_rest 16 = .ok (.iload_n 2, 1) := by decide +kernel
theorem dX12_rest_17 : decode cX12_rest 17 = .ok (.iconst 0, 1) := by decide +kernel
theorem dX12_rest_18 : decode cX12_rest 18 = .ok (.sipush 198, 3) := by decide +kernel
theorem dX12_rest_21 : decode cX12_rest 21 = .ok (.invokestatic 358, 3) := by decide +kernel
theorem dX12_rest_24 : decode cX12_rest 24 = .ok (.ifCond .ne 5, 3) := by decide +kernel
theorem dX12_rest_27 : decode cX12_rest 27 = .ok (.iconst 0, 1) := by decide +kernel
theorem dX12_rest_28 : decode cX12_rest 28 = .ok (.ireturn, 1) := by decide +kernel
theorem dX12_rest_29 : decode cX12_rest 29 = .ok (.aload_n 0, 1) := by decide +kernel
theorem dX12_rest_30 : decode cX12_rest 30 = .ok (.iload_n 1, 1) := by decide +kernel
theorem dX12_rest_31 : decode cX12_rest 31 = .ok (.putfield 228, 3) := by decide +kernel
theorem dX12_rest_34 : decode cX12_rest 34 = .ok (.aload_n 0, 1) := by decide +kernel
theorem dX12_rest_35 : decode cX12_rest 35 = .ok (.iload_n 2, 1) := by decide +kernel
theorem dX12_rest_36 : decode cX12_rest 36 = .ok (.putfield 231, 3) := by decide +kernel
theorem dX12_rest_39 : decode cX12_rest 39 = .ok (.iconst 1, 1) := by decide +kernel
theorem dX12_rest_40 : decode cX12_rest 40 = .ok (.ireturn, 1) := by decide +kernel
theorem dX12_isShop_0 : decode cX12_isShop 0 = .ok (.iload_n 1, 1) := by decide +kernel
theorem dX12_isShop_1 : decode cX12_isShop 1 = .ok (.ifCond .lt 15, 3) := by decide +kernel
theorem dX12_isShop_4 : decode cX12_isShop 4 = .ok (.iload_n 1, 1) := by decide +kernel
theorem dX12_isShop_5 : decode cX12_isShop 5 = .ok (.aload_n 0, 1) := by decide +kernel
theorem dX12_isShop_6 : decode cX12_isShop 6 = .ok (.getfield 366, 3) := by decide +kernel
theorem dX12_isShop_9 : decode cX12_isShop 9 = .ok (.if_icmp .ge 7, 3) := by decide +kernel
theorem dX12_isShop_12 : decode cX12_isShop 12 = .ok (.iconst 1, 1) := by decide +kernel
theorem dX12_isShop_13 : decode cX12_isShop 13 = .ok (.goto 4, 3) := by decide +kernel
theorem dX12_isShop_16 : decode cX12_isShop 16 = .ok (.iconst 0, 1) := by decide +kernel
theorem dX12_isShop_17 : decode cX12_isShop 17 = .ok (.ireturn, 1) := by decide +kernel
theorem dX12_isBuyer_0 : decode cX12_isBuyer 0 = .ok (.iload_n 1, 1) := by decide +kernel
theorem dX12_isBuyer_1 : decode cX12_isBuyer 1 = .ok (.ifCond .lt 15, 3) := by decide +kernel
theorem dX12_isBuyer_4 : decode cX12_isBuyer 4 = .ok (.iload_n 1, 1) := by decide +kernel
theorem dX12_isBuyer_5 : decode cX12_isBuyer 5 = .ok (.aload_n 0, 1) := by decide +kernel
theorem dX12_isBuyer_6 : decode cX12_isBuyer 6 = .ok (.getfield 369, 3) := by decide +kernel
theorem dX12_isBuyer_9 : decode cX12_isBuyer 9 = .ok (.if_icmp .ge 7, 3) := by decide +kernel
theorem dX12_isBuyer_12 : decode cX12_isBuyer 12 = .ok (.iconst 1, 1) := by decide +kernel
theorem dX12_isBuyer_13 : decode cX12_isBuyer 13 = .ok (.goto 4, 3) := by decide +kernel
theorem dX12_isBuyer_16 : decode cX12_isBuyer 16 = .ok (.iconst 0, 1) := by decide +kernel
theorem dX12_isBuyer_17 : decode cX12_isBuyer 17 = .ok (.ireturn, 1) := by decide +kernel
theorem dX12_visitsOf_0 : decode cX12_visitsOf 0 = .ok (.iconst 0, 1) := by decide +kernel
theorem dX12_visitsOf_1 : decode cX12_visitsOf 1 = .ok (.istore_n 3, 1) := by decide +kernel
theorem dX12_visitsOf_2 : decode cX12_visitsOf 2 = .ok (.iconst 0, 1) := by decide +kernel
theorem dX12_visitsOf_3 : decode cX12_visitsOf 3 = .ok (.istore 4, 2) := by decide +kernel
theorem dX12_visitsOf_5 : decode cX12_visitsOf 5 = .ok (.iload 4, 2) := by decide +kernel
theorem dX12_visitsOf_7 : decode cX12_visitsOf 7 = .ok (.aload_n 0, 1) := by decide +kernel
theorem dX12_visitsOf_8 : decode cX12_visitsOf 8 = .ok (.getfield 372, 3) := by decide +kernel
theorem dX12_visitsOf_11 : decode cX12_visitsOf 11 = .ok (.if_icmp .ge 39, 3) := by decide +kernel
theorem dX12_visitsOf_14 : decode cX12_visitsOf 14 = .ok (.iload_n 3, 1) := by decide +kernel
theorem dX12_visitsOf_15 : decode cX12_visitsOf 15 = .ok (.aload_n 0, 1) := by decide +kernel
theorem dX12_visitsOf_16 : decode cX12_visitsOf 16 = .ok (.getfield 137, 3) := by decide +kernel
theorem dX12_visitsOf_19 : decode cX12_visitsOf 19 = .ok (.iload 4, 2) := by decide +kernel
theorem dX12_visitsOf_21 : decode cX12_visitsOf 21 = .ok (.iaload, 1) := by decide +kernel
theorem dX12_visitsOf_22 : decode cX12_visitsOf 22 = .ok (.iload_n 1, 1) := by decide +kernel
theorem dX12_visitsOf_23 : decode cX12_visitsOf 23 = .ok (.if_icmp .ne 18, 3) := by decide +kernel
theorem dX12_visitsOf_26 : decode cX12_visitsOf 26 = .ok (.aload_n 0, 1) := by decide +kernel
theorem dX12_visitsOf_27 : decode cX12_visitsOf 27 = .ok (.getfield 140, 3) := by decide +kernel
theorem dX12_visitsOf_30 : decode cX12_visitsOf 30 = .ok (.iload 4, 2) := by decide +kernel
theorem dX12_visitsOf_32 : decode cX12_visitsOf 32 = .ok (.iaload, 1) := by decide +kernel
theorem dX12_visitsOf_33 : decode cX12_visitsOf 33 = .ok (.iload_n 2, 1) := by decide +kernel
theorem dX12_visitsOf_34 : decode cX12_visitsOf 34 = .ok (.if_icmp .ne 7, 3) := by decide +kernel
theorem dX12_visitsOf_37 : decode cX12_visitsOf 37 = .ok (.iconst 1, 1) := by decide +kernel
theorem dX12_visitsOf_38 : decode cX12_visitsOf 38 = .ok (.goto 4, 3) := by decide +kernel
theorem dX12_visitsOf_41 : decode cX12_visitsOf 41 = .ok (.iconst 0, 1) := by decide +kernel
theorem dX12_visitsOf_42 : decode cX12_visitsOf 42 = .ok (.iadd, 1) := by decide +kernel
theorem dX12_visitsOf_43 : decode cX12_visitsOf 43 = .ok (.istore_n 3, 1) := by decide +kernel
theorem dX12_visitsOf_44 : decode cX12_visitsOf 44 = .ok (.iinc 4 1, 3) := by decide +kernel
theorem dX12_visitsOf_47 : decode cX12_visitsOf 47 = .ok (.goto (-42), 3) := by decide +kernel
theorem dX12_visitsOf_50 : decode cX12_visitsOf 50 = .ok (.iload_n 3, 1) := by decide +kernel
theorem dX12_visitsOf_51 : decode cX12_visitsOf 51 = .ok (.ireturn, 1) := by decide +kernel
theorem dX12_visit_0 : decode cX12_visit 0 = .ok (.aload_n 0, 1) := by decide +kernel
theorem dX12_visit_1 : decode cX12_visit 1 = .ok (.iconst 0, 1) := by decide +kernel
theorem dX12_visit_2 : decode cX12_visit 2 = .ok (.putfield 1, 3) := by decide +kernel
theorem dX12_visit_5 : decode cX12_visit 5 = .ok (.aload_n 0, 1) := by decide +kernel
theorem dX12_visit_6 : decode cX12_visit 6 = .ok (.iload_n 1, 1) := by decide +kernel
theorem dX12_visit_7 : decode cX12_visit 7 = .ok (.invokevirtual 375, 3) := by decide +kernel
theorem dX12_visit_10 : decode cX12_visit 10 = .ok (.ifCond .eq 75, 3) := by decide +kernel
theorem dX12_visit_13 : decode cX12_visit 13 = .ok (.aload_n 0, 1) := by decide +kernel
theorem dX12_visit_14 : decode cX12_visit 14 = .ok (.iload_n 2, 1) := by decide +kernel
theorem dX12_visit_15 : decode cX12_visit 15 = .ok (.invokevirtual 378, 3) := by decide +kernel
theorem dX12_visit_18 : decode cX12_visit 18 = .ok (.ifCond .eq 67, 3) := by decide +kernel
theorem dX12_visit_21 : decode cX12_visit 21 = .ok (.iload_n 3, 1) := by decide +kernel
theorem dX12_visit_22 : decode cX12_visit 22 = .ok (.iconst 0, 1) := by decide +kernel
theorem dX12_visit_23 : decode cX12_visit 23 = .ok (.aload_n 0, 1) := by decide +kernel
theorem dX12_visit_24 : decode cX12_visit 24 = .ok (.getfield 295, 3) := by decide +kernel
theorem dX12_visit_27 : decode cX12_visit 27 = .ok (.invokestatic 358, 3) := by decide +kernel
theorem dX12_visit_30 : decode cX12_visit 30 = .ok (.ifCond .eq 55, 3) := by decide +kernel
theorem dX12_visit_33 : decode cX12_visit 33 = .ok (.iload 4, 2) := by decide +kernel
theorem dX12_visit_35 : decode cX12_visit 35 = .ok (.iconst 0, 1) := by decide +kernel
theorem dX12_visit_36 : decode cX12_visit 36 = .ok (.sipush 1439, 3) := by decide +kernel
theorem dX12_visit_39 : decode cX12_visit 39 = .ok (.invokestatic 358, 3) := by decide +kernel
theorem dX12_visit_42 : decode cX12_visit 42 = .ok (.ifCond .eq 43, 3) := by decide +kernel
theorem dX12_visit_45 : decode cX12_visit 45 = .ok (.iload 5, 2) := by decide +kernel
theorem dX12_visit_47 : decode cX12_visit 47 = .ok (.iconst 1, 1) := by decide +kernel
theorem dX12_visit_48 : decode cX12_visit 48 = .ok (.sipush 300, 3) := by decide +kernel
theorem dX12_visit_51 : decode cX12_visit 51 = .ok (.invokestatic 358, 3) := by decide +kernel
theorem dX12_visit_54 : decode cX12_visit 54 = .ok (.ifCond .eq 31, 3) := by decide +kernel
theorem dX12_visit_57 : decode cX12_visit 57 = .ok (.iload 6, 2) := by decide +kernel
theorem dX12_visit_59 : decode cX12_visit 59 = .ok (.iconst 0, 1) := by decide +kernel
theorem dX12_visit_60 : decode cX12_visit 60 = .ok (.sipush 4095, 3) := by decide +kernel
theorem dX12_visit_63 : decode cX12_visit 63 = .ok (.invokestatic 358, 3) := by decide +kernel
theorem dX12_visit_66 : decode cX12_visit 66 = .ok (.ifCond .eq 19, 3) := by decide +kernel
theorem dX12_visit_69 : decode cX12_visit 69 = .ok (.iload 7, 2) := by decide +kernel
theorem dX12_visit_71 : decode cX12_visit 71 = .ok (.iconst (-1), 1) := by decide +kernel
theorem dX12_visit_72 : decode cX12_visit 72 = .ok (.sipush 1439, 3) := by decide +kernel
theorem dX12_visit_75 : decode cX12_visit 75 = .ok (.invokestatic 358, 3) := by decide +kernel
theorem dX12_visit_78 : decode cX12_visit 78 = .ok (.ifCond .eq 7, 3) := by decide +kernel
theorem dX12_visit_81 : decode cX12_visit 81 = .ok (.iconst 1, 1) := by decide +kernel
theorem dX12_visit_82 : decode cX12_visit 82 = .ok (.goto 4, 3) := by decide +kernel
theorem dX12_visit_85 : decode cX12_visit 85 = .ok (.iconst 0, 1) := by decide +kernel
theorem dX12_visit_86 : decode cX12_visit 86 = .ok (.istore 8, 2) := by decide +kernel
theorem dX12_visit_88 : decode cX12_visit 88 = .ok (.iload 8, 2) := by decide +kernel
theorem dX12_visit_90 : decode cX12_visit 90 = .ok (.ifCond .eq 23, 3) := by decide +kernel
theorem dX12_visit_93 : decode cX12_visit 93 = .ok (.aload_n 0, 1) := by decide +kernel
theorem dX12_visit_94 : decode cX12_visit 94 = .ok (.getfield 372, 3) := by decide +kernel
theorem dX12_visit_97 : decode cX12_visit 97 = .ok (.bipush 120, 2) := by decide +kernel
theorem dX12_visit_99 : decode cX12_visit 99 = .ok (.if_icmp .eq 14, 3) := by decide +kernel
theorem dX12_visit_102 : decode cX12_visit 102 = .ok (.aload_n 0, 1) := by decide +kernel
theorem dX12_visit_103 : decode cX12_visit 103 = .ok (.iload_n 2, 1) := by decide +kernel
theorem dX12_visit_104 : decode cX12_visit 104 = .ok (.iload_n 3, 1) := by decide +kernel
theorem dX12_visit_105 : decode cX12_visit 105 = .ok (.invokevirtual 381, 3) := by decide +kernel
theorem dX12_visit_108 : decode cX12_visit 108 = .ok (.bipush 12, 2) := by decide +kernel
theorem dX12_visit_110 : decode cX12_visit 110 = .ok (.if_icmp .ne 5, 3) := by decide +kernel
theorem dX12_visit_113 : decode cX12_visit 113 = .ok (.iconst (-1), 1) := by decide +kernel
theorem dX12_visit_114 : decode cX12_visit 114 = .ok (.ireturn, 1) := by decide +kernel
theorem dX12_visit_115 : decode cX12_visit 115 = .ok (.aload_n 0, 1) := by decide +kernel
theorem dX12_visit_116 : decode cX12_visit 116 = .ok (.getfield 134, 3) := by decide +kernel
theorem dX12_visit_119 : decode cX12_visit 119 = .ok (.aload_n 0, 1) := by decide +kernel
theorem dX12_visit_120 : decode cX12_visit 120 = .ok (.getfield 372, 3) := by decide +kernel
theorem dX12_visit_123 : decode cX12_visit 123 = .ok (.iload_n 1, 1) := by decide +kernel
theorem dX12_visit_124 : decode cX12_visit 124 = .ok (.iastore, 1) := by decide +kernel
theorem dX12_visit_125 : decode cX12_visit 125 = .ok (.aload_n 0, 1) := by decide +kernel
theorem dX12_visit_126 : decode cX12_visit 126 = .ok (.getfield 137, 3) := by decide +kernel
theorem dX12_visit_129 : decode cX12_visit 129 = .ok (.aload_n 0, 1) := by decide +kernel
theorem dX12_visit_130 : decode cX12_visit 130 = .ok (.getfield 372, 3) := by decide +kernel
theorem dX12_visit_133 : decode cX12_visit 133 = .ok (.iload_n 2, 1) := by decide +kernel
theorem dX12_visit_134 : decode cX12_visit 134 = .ok (.iastore, 1) := by decide +kernel
theorem dX12_visit_135 : decode cX12_visit 135 = .ok (.aload_n 0, 1) := by decide +kernel
theorem dX12_visit_136 : decode cX12_visit 136 = .ok (.getfield 140, 3) := by decide +kernel
theorem dX12_visit_139 : decode cX12_visit 139 = .ok (.aload_n 0, 1) := by decide +kernel
theorem dX12_visit_140 : decode cX12_visit 140 = .ok (.getfield 372, 3) := by decide +kernel
theorem dX12_visit_143 : decode cX12_visit 143 = .ok (.iload_n 3, 1) := by decide +kernel
theorem dX12_visit_144 : decode cX12_visit 144 = .ok (.iastore, 1) := by decide +kernel
theorem dX12_visit_145 : decode cX12_visit 145 = .ok (.aload_n 0, 1) := by decide +kernel
theorem dX12_visit_146 : decode cX12_visit 146 = .ok (.getfield 143, 3) := by decide +kernel
theorem dX12_visit_149 : decode cX12_visit 149 = .ok (.aload_n 0, 1) := by decide +kernel
theorem dX12_visit_150 : decode cX12_visit 150 = .ok (.getfield 372, 3) := by decide +kernel
theorem dX12_visit_153 : decode cX12_visit 153 = .ok (.iload 4, 2) := by decide +kernel
theorem dX12_visit_155 : decode cX12_visit 155 = .ok (.iastore, 1) := by decide +kernel
theorem dX12_visit_156 : decode cX12_visit 156 = .ok (.aload_n 0, 1) := by decide +kernel
theorem dX12_visit_157 : decode cX12_visit 157 = .ok (.getfield 146, 3) := by decide +kernel
theorem dX12_visit_160 : decode cX12_visit 160 = .ok (.aload_n 0, 1) := by decide +kernel
theorem dX12_visit_161 : decode cX12_visit 161 = .ok (.getfield 372, 3) := by decide +kernel
theorem dX12_visit_164 : decode cX12_visit 164 = .ok (.iload 5, 2) := by decide +kernel
theorem dX12_visit_166 : decode cX12_visit 166 = .ok (.iastore, 1) := by decide +kernel
theorem dX12_visit_167 : decode cX12_visit 167 = .ok (.aload_n 0, 1) := by decide +kernel
theorem dX12_visit_168 : decode cX12_visit 168 = .ok (.getfield 149, 3) := by decide +kernel
theorem dX12_visit_171 : decode cX12_visit 171 = .ok (.aload_n 0, 1) := by decide +kernel
theorem dX12_visit_172 : decode cX12_visit 172 = .ok (.getfield 372, 3) := by decide +kernel
theorem dX12_visit_175 : decode cX12_visit 175 = .ok (.iload 6, 2) := by decide +kernel
theorem dX12_visit_177 : decode cX12_visit 177 = .ok (.iastore, 1) := by decide +kernel
theorem dX12_visit_178 : decode cX12_visit 178 = .ok (.aload_n 0, 1) := by decide +kernel
theorem dX12_visit_179 : decode cX12_visit 179 = .ok (.getfield 152, 3) := by decide +kernel
theorem dX12_visit_182 : decode cX12_visit 182 = .ok (.aload_n 0, 1) := by decide +kernel
theorem dX12_visit_183 : decode cX12_visit 183 = .ok (.getfield 372, 3) := by decide +kernel
theorem dX12_visit_186 : decode cX12_visit 186 = .ok (.iload 7, 2) := by decide +kernel
theorem dX12_visit_188 : decode cX12_visit 188 = .ok (.iastore, 1) := by decide +kernel
theorem dX12_visit_189 : decode cX12_visit 189 = .ok (.aload_n 0, 1) := by decide +kernel
theorem dX12_visit_190 : decode cX12_visit 190 = .ok (.getfield 155, 3) := by decide +kernel
theorem dX12_visit_193 : decode cX12_visit 193 = .ok (.aload_n 0, 1) := by decide +kernel
theorem dX12_visit_194 : decode cX12_visit 194 = .ok (.getfield 372, 3) := by decide +kernel
theorem dX12_visit_197 : decode cX12_visit 197 = .ok (.aload_n 0, 1) := by decide +kernel
theorem dX12_visit_198 : decode cX12_visit 198 = .ok (.getfield 295, 3) := by decide +kernel
theorem dX12_visit_201 : decode cX12_visit 201 = .ok (.iastore, 1) := by decide +kernel
theorem dX12_visit_202 : decode cX12_visit 202 = .ok (.aload_n 0, 1) := by decide +kernel
theorem dX12_visit_203 : decode cX12_visit 203 = .ok (.dup, 1) := by decide +kernel
theorem dX12_visit_204 : decode cX12_visit 204 = .ok (.getfield 372, 3) := by decide +kernel
theorem dX12_visit_207 : decode cX12_visit 207 = .ok (.iconst 1, 1) := by decide +kernel
theorem dX12_visit_208 : decode cX12_visit 208 = .ok (.iadd, 1) := by decide +kernel
theorem dX12_visit_209 : decode cX12_visit 209 = .ok (.putfield 372, 3) := by decide +kernel
theorem dX12_visit_212 : decode cX12_visit 212 = .ok (.aload_n 0, 1) := by decide +kernel
theorem dX12_visit_213 : decode cX12_visit 213 = .ok (.getfield 372, 3) := by decide +kernel
theorem dX12_visit_216 : decode cX12_visit 216 = .ok (.iconst 1, 1) := by decide +kernel
theorem dX12_visit_217 : decode cX12_visit 217 = .ok (.isub, 1) := by decide +kernel
theorem dX12_visit_218 : decode cX12_visit 218 = .ok (.ireturn, 1) := by decide +kernel
theorem dX12_appeal_0 : decode cX12_appeal 0 = .ok (.aload_n 0, 1) := by decide +kernel
theorem dX12_appeal_1 : decode cX12_appeal 1 = .ok (.iconst 0, 1) := by decide +kernel
theorem dX12_appeal_2 : decode cX12_appeal 2 = .ok (.putfield 1, 3) := by decide +kernel
theorem dX12_appeal_5 : decode cX12_appeal 5 = .ok (.iload_n 1, 1) := by decide +kernel
theorem dX12_appeal_6 : decode cX12_appeal 6 = .ok (.ifCond .lt 60, 3) := by decide +kernel
theorem dX12_appeal_9 : decode cX12_appeal 9 = .ok (.iload_n 1, 1) := by decide +kernel
theorem dX12_appeal_10 : decode cX12_appeal 10 = .ok (.aload_n 0, 1) := by decide +kernel
theorem dX12_appeal_11 : decode cX12_appeal 11 = .ok (.getfield 372, 3) := by decide +kernel
theorem dX12_appeal_14 : decode cX12_appeal 14 = .ok (.if_icmp .ge 52, 3) := by decide +kernel
theorem dX12_appeal_17 : decode cX12_appeal 17 = .ok (.iload_n 2, 1) := by decide +kernel
theorem dX12_appeal_18 : decode cX12_appeal 18 = .ok (.iconst 0, 1) := by decide +kernel
theorem dX12_appeal_19 : decode cX12_appeal 19 = .ok (.bipush 11, 2) := by decide +kernel
theorem dX12_appeal_21 : decode cX12_appeal 21 = .ok (.invokestatic 358, 3) := by decide +kernel
theorem dX12_appeal_24 : decode cX12_appeal 24 = .ok (.ifCond .eq 42, 3) := by decide +kernel
theorem dX12_appeal_27 : decode cX12_appeal 27 = .ok (.aload_n 0, 1) := by decide +kernel
theorem dX12_appeal_28 : decode cX12_appeal 28 = .ok (.getfield 124, 3) := by decide +kernel
theorem dX12_appeal_31 : decode cX12_appeal 31 = .ok (.aload_n 0, 1) := by decide +kernel
theorem dX12_appeal_32 : decode cX12_appeal 32 = .ok (.getfield 134, 3) := by decide +kernel
theorem dX12_appeal_35 : decode cX12_appeal 35 = .ok (.iload_n 1, 1) := by decide +kernel
theorem dX12_appeal_36 : decode cX12_appeal 36 = .ok (.iaload, 1) := by decide +kernel
theorem dX12_appeal_37 : decode cX12_appeal 37 = .ok (.baload, 1) := by decide +kernel
theorem dX12_appeal_38 : decode cX12_appeal 38 = .ok (.ifCond .eq 28, 3) := by decide +kernel
theorem dX12_appeal_41 : decode cX12_appeal 41 = .ok (.aload_n 0, 1) := by decide +kernel
theorem dX12_appeal_42 : decode cX12_appeal 42 = .ok (.getfield 295, 3) := by decide +kernel
theorem dX12_appeal_45 : decode cX12_appeal 45 = .ok (.aload_n 0, 1) := by decide +kernel
theorem dX12_appeal_46 : decode cX12_appeal 46 = .ok (.getfield 155, 3) := by decide +kernel
theorem dX12_appeal_49 : decode cX12_appeal 49 = .ok (.iload_n 1, 1) := by decide +kernel
theorem dX12_appeal_50 : decode cX12_appeal 50 = .ok (.iaload, 1) := by decide +kernel
theorem dX12_appeal_51 : decode cX12_appeal 51 = .ok (.bipush 14, 2) := by decide +kernel
theorem dX12_appeal_53 : decode cX12_appeal 53 = .ok (.iadd, 1) := by decide +kernel
theorem dX12_appeal_54 : decode cX12_appeal 54 = .ok (.if_icmp .gt 12, 3) := by decide +kernel
theorem dX12_appeal_57 : decode cX12_appeal 57 = .ok (.aload_n 0, 1) := by decide +kernel
theorem dX12_appeal_58 : decode cX12_appeal 58 = .ok (.getfield 385, 3) := by decide +kernel
theorem dX12_appeal_61 : decode cX12_appeal 61 = .ok (.bipush 60, 2) := by decide +kernel
theorem dX12_appeal_63 : decode cX12_appeal 63 = .ok (.if_icmp .ne 5, 3) := by decide +kernel
theorem dX12_appeal_66 : decode cX12_appeal 66 = .ok (.iconst 0, 1) := by decide +kernel
theorem dX12_appeal_67 : decode cX12_appeal 67 = .ok (.ireturn, 1) := by decide +kernel
theorem dX12_appeal_68 : decode cX12_appeal 68 = .ok (.aload_n 0, 1) := by decide +kernel
theorem dX12_appeal_69 : decode cX12_appeal 69 = .ok (.getfield 158, 3) := by decide +kernel
theorem dX12_appeal_72 : decode cX12_appeal 72 = .ok (.aload_n 0, 1) := by decide +kernel
theorem dX12_appeal_73 : decode cX12_appeal 73 = .ok (.getfield 385, 3) := by decide +kernel
theorem dX12_appeal_76 : decode cX12_appeal 76 = .ok (.iload_n 1, 1) := by decide +kernel
theorem dX12_appeal_77 : decode cX12_appeal 77 = .ok (.iastore, 1) := by decide +kernel
theorem dX12_appeal_78 : decode cX12_appeal 78 = .ok (.aload_n 0, 1) := by decide +kernel
theorem dX12_appeal_79 : decode cX12_appeal 79 = .ok (.getfield 161, 3) := by decide +kernel
theorem dX12_appeal_82 : decode cX12_appeal 82 = .ok (.aload_n 0, 1) := by decide +kernel
theorem dX12_appeal_83 : decode cX12_appeal 83 = .ok (.getfield 385, 3) := by decide +kernel
theorem dX12_appeal_86 : decode cX12_appeal 86 = .ok (.iload_n 2, 1) := by decide +kernel
theorem dX12_appeal_87 : decode cX12_appeal 87 = .ok (.iastore, 1) := by decide +kernel
theorem dX12_appeal_88 : decode cX12_appeal 88 = .ok (.aload_n 0, 1) := by decide +kernel
theorem dX12_appeal_89 : decode cX12_appeal 89 = .ok (.getfield 164, 3) := by decide +kernel
theorem dX12_appeal_92 : decode cX12_appeal 92 = .ok (.aload_n 0, 1) := by decide +kernel
theorem dX12_appeal_93 : decode cX12_appeal 93 = .ok (.getfield 385, 3) := by decide +kernel
theorem dX12_appeal_96 : decode cX12_appeal 96 = .ok (.aload_n 0, 1) := by decide +kernel
theorem dX12_appeal_97 : decode cX12_appeal 97 = .ok (.getfield 295, 3) := by decide +kernel
theorem dX12_appeal_100 : decode cX12_appeal 100 = .ok (.iastore, 1) := by decide +kernel
theorem dX12_appeal_101 : decode cX12_appeal 101 = .ok (.aload_n 0, 1) := by decide +kernel
theorem dX12_appeal_102 : decode cX12_appeal 102 = .ok (.dup, 1) := by decide +kernel
theorem dX12_appeal_103 : decode cX12_appeal 103 = .ok (.getfield 385, 3) := by decide +kernel
theorem dX12_appeal_106 : decode cX12_appeal 106 = .ok (.iconst 1, 1) := by decide +kernel
theorem dX12_appeal_107 : decode cX12_appeal 107 = .ok (.iadd, 1) := by decide +kernel
theorem dX12_appeal_108 : decode cX12_appeal 108 = .ok (.putfield 385, 3) := by decide +kernel
theorem dX12_appeal_111 : decode cX12_appeal 111 = .ok (.iconst 1, 1) := by decide +kernel
theorem dX12_appeal_112 : decode cX12_appeal 112 = .ok (.ireturn, 1) := by decide +kernel
theorem dX12_isSeen_0 : decode cX12_isSeen 0 = .ok (.iload_n 1, 1) := by decide +kernel
theorem dX12_isSeen_1 : decode cX12_isSeen 1 = .ok (.ifCond .lt 28, 3) := by decide +kernel
theorem dX12_isSeen_4 : decode cX12_isSeen 4 = .ok (.iload_n 1, 1) := by decide +kernel
theorem dX12_isSeen_5 : decode cX12_isSeen 5 = .ok (.aload_n 0, 1) := by decide +kernel
theorem dX12_isSeen_6 : decode cX12_isSeen 6 = .ok (.getfield 372, 3) := by decide +kernel
theorem dX12_isSeen_9 : decode cX12_isSeen 9 = .ok (.if_icmp .ge 20, 3) := by decide +kernel
theorem dX12_isSeen_12 : decode cX12_isSeen 12 = .ok (.aload_n 0, 1) := by decide +kernel
theorem dX12_isSeen_13 : decode cX12_isSeen 13 = .ok (.getfield 155, 3) := by decide +kernel
theorem dX12_isSeen_16 : decode cX12_isSeen 16 = .ok (.iload_n 1, 1) := by decide +kernel
theorem dX12_isSeen_17 : decode cX12_isSeen 17 = .ok (.iaload, 1) := by decide +kernel
theorem dX12_isSeen_18 : decode cX12_isSeen 18 = .ok (.aload_n 0, 1) := by decide +kernel
theorem dX12_isSeen_19 : decode cX12_isSeen 19 = .ok (.invokevirtual 388, 3) := by decide +kernel
theorem dX12_isSeen_22 : decode cX12_isSeen 22 = .ok (.if_icmp .gt 7, 3) := by decide +kernel
theorem dX12_isSeen_25 : decode cX12_isSeen 25 = .ok (.iconst 1, 1) := by decide +kernel
theorem dX12_isSeen_26 : decode cX12_isSeen 26 = .ok (.goto 4, 3) := by decide +kernel
theorem dX12_isSeen_29 : decode cX12_isSeen 29 = .ok (.iconst 0, 1) := by decide +kernel
theorem dX12_isSeen_30 : decode cX12_isSeen 30 = .ok (.ireturn, 1) := by decide +kernel
theorem dX12_formNow_0 : decode cX12_formNow 0 = .ok (.aload_n 0, 1) := by decide +kernel
theorem dX12_formNow_1 : decode cX12_formNow 1 = .ok (.getfield 149, 3) := by decide +kernel
theorem dX12_formNow_4 : decode cX12_formNow 4 = .ok (.iload_n 1, 1) := by decide +kernel
theorem dX12_formNow_5 : decode cX12_formNow 5 = .ok (.iaload, 1) := by decide +kernel
theorem dX12_formNow_6 : decode cX12_formNow 6 = .ok (.istore_n 2, 1) := by decide +kernel
theorem dX12_formNow_7 : decode cX12_formNow 7 = .ok (.iconst 0, 1) := by decide +kernel
theorem dX12_formNow_8 : decode cX12_formNow 8 = .ok (.istore_n 3, 1) := by decide +kernel
theorem dX12_formNow_9 : decode cX12_formNow 9 = .ok (.iload_n 3, 1) := by decide +kernel
theorem dX12_formNow_10 : decode cX12_formNow 10 = .ok (.aload_n 0, 1) := by decide +kernel
theorem dX12_formNow_11 : decode cX12_formNow 11 = .ok (.getfield 385, 3) := by decide +kernel
theorem dX12_formNow_14 : decode cX12_formNow 14 = .ok (.if_icmp .ge 47, 3) := by decide +kernel
theorem dX12_formNow_17 : decode cX12_formNow 17 = .ok (.aload_n 0, 1) := by decide +kernel
theorem dX12_formNow_18 : decode cX12_formNow 18 = .ok (.getfield 158, 3) := by decide +kernel
theorem dX12_formNow_21 : decode cX12_formNow 21 = .ok (.iload_n 3, 1) := by decide +kernel
theorem dX12_formNow_22 : decode cX12_formNow 22 = .ok (.iaload, 1) := by decide +kernel
theorem dX12_formNow_23 : decode cX12_formNow 23 = .ok (.iload_n 1, 1) := by decide +kernel
theorem dX12_formNow_24 : decode cX12_formNow 24 = .ok (.if_icmp .ne 29, 3) := by decide +kernel
theorem dX12_formNow_27 : decode cX12_formNow 27 = .ok (.aload_n 0, 1) := by decide +kernel
theorem dX12_formNow_28 : decode cX12_formNow 28 = .ok (.getfield 164, 3) := by decide +kernel
theorem dX12_formNow_31 : decode cX12_formNow 31 = .ok (.iload_n 3, 1) := by decide +kernel
theorem dX12_formNow_32 : decode cX12_formNow 32 = .ok (.iaload, 1) := by decide +kernel
theorem dX12_formNow_33 : decode cX12_formNow 33 = .ok (.aload_n 0, 1) := by decide +kernel
theorem dX12_formNow_34 : decode cX12_formNow 34 = .ok (.invokevirtual 388, 3) := by decide +kernel
theorem dX12_formNow_37 : decode cX12_formNow 37 = .ok (.if_icmp .gt 16, 3) := by decide +kernel
theorem dX12_formNow_40 : decode cX12_formNow 40 = .ok (.iload_n 2, 1) := by decide +kernel
theorem dX12_formNow_41 : decode cX12_formNow 41 = .ok (.iconst 1, 1) := by decide +kernel
theorem dX12_formNow_42 : decode cX12_formNow 42 = .ok (.aload_n 0, 1) := by decide +kernel
theorem dX12_formNow_43 : decode cX12_formNow 43 = .ok (.getfield 161, 3) := by decide +kernel
theorem dX12_formNow_46 : decode cX12_formNow 46 = .ok (.iload_n 3, 1) := by decide +kernel
theorem dX12_formNow_47 : decode cX12_formNow 47 = .ok (.iaload, 1) := by decide +kernel
theorem dX12_formNow_48 : decode cX12_formNow 48 = .ok (.ishl, 1) := by decide +kernel
theorem dX12_formNow_49 : decode cX12_formNow 49 = .ok (.ixor, 1) := by decide +kernel
theorem dX12_formNow_50 : decode cX12_formNow 50 = .ok (.goto 4, 3) := by decide +kernel
theorem dX12_formNow_53 : decode cX12_formNow 53 = .ok (.iload_n 2, 1) := by decide +kernel
theorem dX12_formNow_54 : decode cX12_formNow 54 = .ok (.istore_n 2, 1) := by decide +kernel
theorem dX12_formNow_55 : decode cX12_formNow 55 = .ok (.iinc 3 1, 3) := by decide +kernel
theorem dX12_formNow_58 : decode cX12_formNow 58 = .ok (.goto (-49), 3) := by decide +kernel
theorem dX12_formNow_61 : decode cX12_formNow 61 = .ok (.iload_n 2, 1) := by decide +kernel
theorem dX12_formNow_62 : decode cX12_formNow 62 = .ok (.ireturn, 1) := by decide +kernel
theorem dX12_bits_0 : decode cX12_bits 0 = .ok (.iconst 0, 1) := by decide +kernel
theorem dX12_bits_1 : decode cX12_bits 1 = .ok (.istore_n 1, 1) := by decide +kernel
theorem dX12_bits_2 : decode cX12_bits 2 = .ok (.iconst 0, 1) := by decide +kernel
theorem dX12_bits_3 : decode cX12_bits 3 = .ok (.istore_n 2, 1) := by decide +kernel
theorem dX12_bits_4 : decode cX12_bits 4 = .ok (.iload_n 2, 1) := by decide +kernel
theorem dX12_bits_5 : decode cX12_bits 5 = .ok (.bipush 20, 2) := by decide +kernel
theorem dX12_bits_7 : decode cX12_bits 7 = .ok (.if_icmp .ge 17, 3) := by decide +kernel
theorem dX12_bits_10 : decode cX12_bits 10 = .ok (.iload_n 1, 1) := by decide +kernel
theorem dX12_bits_11 : decode cX12_bits 11 = .ok (.iload_n 0, 1) := by decide +kernel
theorem dX12_bits_12 : decode cX12_bits 12 = .ok (.iload_n 2, 1) := by decide +kernel
theorem dX12_bits_13 : decode cX12_bits 13 = .ok (.ishr, 1) := by decide +kernel
theorem dX12_bits_14 : decode cX12_bits 14 = .ok (.iconst 1, 1) := by decide +kernel
theorem dX12_bits_15 : decode cX12_bits 15 = .ok (.iand, 1) := by decide +kernel
theorem dX12_bits_16 : decode cX12_bits 16 = .ok (.iadd, 1) := by decide +kernel
theorem dX12_bits_17 : decode cX12_bits 17 = .ok (.istore_n 1, 1) := by decide +kernel
theorem dX12_bits_18 : decode cX12_bits 18 = .ok (.iinc 2 1, 3) := by decide +kernel
theorem dX12_bits_21 : decode cX12_bits 21 = .ok (.goto (-17), 3) := by decide +kernel
theorem dX12_bits_24 : decode cX12_bits 24 = .ok (.iload_n 1, 1) := by decide +kernel
theorem dX12_bits_25 : decode cX12_bits 25 = .ok (.ireturn, 1) := by decide +kernel
theorem dX12_briefOf_0 : decode cX12_briefOf 0 = .ok (.iconst (-1), 1) := by decide +kernel
theorem dX12_briefOf_1 : decode cX12_briefOf 1 = .ok (.istore_n 2, 1) := by decide +kernel
theorem dX12_briefOf_2 : decode cX12_briefOf 2 = .ok (.iconst 0, 1) := by decide +kernel
theorem dX12_briefOf_3 : decode cX12_briefOf 3 = .ok (.istore_n 3, 1) := by decide +kernel
theorem dX12_briefOf_4 : decode cX12_briefOf 4 = .ok (.iload_n 3, 1) := by decide +kernel
theorem dX12_briefOf_5 : decode cX12_briefOf 5 = .ok (.aload_n 0, 1) := by decide +kernel
theorem dX12_briefOf_6 : decode cX12_briefOf 6 = .ok (.getfield 279, 3) := by decide +kernel
theorem dX12_briefOf_9 : decode cX12_briefOf 9 = .ok (.if_icmp .ge 94, 3) := by decide +kernel
theorem dX12_briefOf_12 : decode cX12_briefOf 12 = .ok (.aload_n 0, 1) := by decide +kernel
theorem dX12_briefOf_13 : decode cX12_briefOf 13 = .ok (.getfield 67, 3) := by decide +kernel
theorem dX12_briefOf_16 : decode cX12_briefOf 16 = .ok (.iload_n 3, 1) := by decide +kernel
theorem dX12_briefOf_17 : decode cX12_briefOf 17 = .ok (.iaload, 1) := by decide +kernel
theorem dX12_briefOf_18 : decode cX12_briefOf 18 = .ok (.aload_n 0, 1) := by decide +kernel
theorem dX12_briefOf_19 : decode cX12_briefOf 19 = .ok (.getfield 115, 3) := by decide +kernel
theorem dX12_briefOf_22 : decode cX12_briefOf 22 = .ok (.aload_n 0, 1) := by decide +kernel
theorem dX12_briefOf_23 : decode cX12_briefOf 23 = .ok (.getfield 134, 3) := by decide +kernel
theorem dX12_briefOf_26 : decode cX12_briefOf 26 = .ok (.iload_n 1, 1) := by decide +kernel
theorem dX12_briefOf_27 : decode cX12_briefOf 27 = .ok (.iaload, 1) := by decide +kernel
theorem dX12_briefOf_28 : decode cX12_briefOf 28 = .ok (.iaload, 1) := by decide +kernel
theorem dX12_briefOf_29 : decode cX12_briefOf 29 = .ok (.if_icmp .ne 35, 3) := by decide +kernel
theorem dX12_briefOf_32 : decode cX12_briefOf 32 = .ok (.aload_n 0, 1) := by decide +kernel
theorem dX12_briefOf_33 : decode cX12_briefOf 33 = .ok (.getfield 73, 3) := by decide +kernel
theorem dX12_briefOf_36 : decode cX12_briefOf 36 = .ok (.iload_n 3, 1) := by decide +kernel
theorem dX12_briefOf_37 : decode cX12_briefOf 37 = .ok (.iaload, 1) := by decide +kernel
theorem dX12_briefOf_38 : decode cX12_briefOf 38 = .ok (.aload_n 0, 1) := by decide +kernel
theorem dX12_briefOf_39 : decode cX12_briefOf 39 = .ok (.invokevirtual 388, 3) := by decide +kernel
theorem dX12_briefOf_42 : decode cX12_briefOf 42 = .ok (.if_icmp .gt 22, 3) := by decide +kernel
theorem dX12_briefOf_45 : decode cX12_briefOf 45 = .ok (.aload_n 0, 1) := by decide +kernel
theorem dX12_briefOf_46 : decode cX12_briefOf 46 = .ok (.getfield 70, 3) := by decide +kernel
theorem dX12_briefOf_49 : decode cX12_briefOf 49 = .ok (.iload_n 3, 1) := by decide +kernel
theorem dX12_briefOf_50 : decode cX12_briefOf 50 = .ok (.iaload, 1) := by decide +kernel
theorem dX12_briefOf_51 : decode cX12_briefOf 51 = .ok (.aload_n 0, 1) := by decide +kernel
theorem dX12_briefOf_52 : decode cX12_briefOf 52 = .ok (.getfield 140, 3) := by decide +kernel
theorem dX12_briefOf_55 : decode cX12_briefOf 55 = .ok (.iload_n 1, 1) := by decide +kernel
theorem dX12_briefOf_56 : decode cX12_briefOf 56 = .ok (.iaload, 1) := by decide +kernel
theorem dX12_briefOf_57 : decode cX12_briefOf 57 = .ok (.if_icmp .gt 7, 3) := by decide +kernel
theorem dX12_briefOf_60 : decode cX12_briefOf 60 = .ok (.iconst 1, 1) := by decide +kernel
theorem dX12_briefOf_61 : decode cX12_briefOf 61 = .ok (.goto 4, 3) := by decide +kernel
theorem dX12_briefOf_64 : decode cX12_briefOf 64 = .ok (.iconst 0, 1) := by decide +kernel
theorem dX12_briefOf_65 : decode cX12_briefOf 65 = .ok (.istore 4, 2) := by decide +kernel
theorem dX12_briefOf_67 : decode cX12_briefOf 67 = .ok (.iload 4, 2) := by decide +kernel
theorem dX12_briefOf_69 : decode cX12_briefOf 69 = .ok (.ifCond .eq 26, 3) := by decide +kernel
theorem dX12_briefOf_72 : decode cX12_briefOf 72 = .ok (.iload_n 2, 1) := by decide +kernel
theorem dX12_briefOf_73 : decode cX12_briefOf 73 = .ok (.ifCond .lt 18, 3) := by decide +kernel
theorem dX12_briefOf_76 : decode cX12_briefOf 76 = .ok (.aload_n 0, 1) := by decide +kernel
theorem dX12_briefOf_77 : decode cX12_briefOf 77 = .ok (.getfield 70, 3) := by decide +kernel
theorem dX12_briefOf_80 : decode cX12_briefOf 80 = .ok (.iload_n 3, 1) := by decide +kernel
theorem dX12_briefOf_81 : decode cX12_briefOf 81 = .ok (.iaload, 1) := by decide +kernel
theorem dX12_briefOf_82 : decode cX12_briefOf 82 = .ok (.aload_n 0, 1) := by decide +kernel
theorem dX12_briefOf_83 : decode cX12_briefOf 83 = .ok (.getfield 70, 3) := by decide +kernel
theorem dX12_briefOf_86 : decode cX12_briefOf 86 = .ok (.iload_n 2, 1) := by decide +kernel
theorem dX12_briefOf_87 : decode cX12_briefOf 87 = .ok (.iaload, 1) := by decide +kernel
theorem dX12_briefOf_88 : decode cX12_briefOf 88 = .ok (.if_icmp .lt 7, 3) := by decide +kernel
theorem dX12_briefOf_91 : decode cX12_briefOf 91 = .ok (.iload_n 3, 1) := by decide +kernel
theorem dX12_briefOf_92 : decode cX12_briefOf 92 = .ok (.goto 4, 3) := by decide +kernel
theorem dX12_briefOf_95 : decode cX12_briefOf 95 = .ok (.iload_n 2, 1) := by decide +kernel
theorem dX12_briefOf_96 : decode cX12_briefOf 96 = .ok (.istore_n 2, 1) := by decide +kernel
theorem dX12_briefOf_97 : decode cX12_briefOf 97 = .ok (.iinc 3 1, 3) := by decide +kernel
theorem dX12_briefOf_100 : decode cX12_briefOf 100 = .ok (.goto (-96), 3) := by decide +kernel
theorem dX12_briefOf_103 : decode cX12_briefOf 103 = .ok (.iload_n 2, 1) := by decide +kernel
theorem dX12_briefOf_104 : decode cX12_briefOf 104 = .ok (.ireturn, 1) := by decide +kernel
theorem dX12_isAhead_0 : decode cX12_isAhead 0 = .ok (.aload_n 0, 1) := by decide +kernel
theorem dX12_isAhead_1 : decode cX12_isAhead 1 = .ok (.getfield 140, 3) := by decide +kernel
theorem dX12_isAhead_4 : decode cX12_isAhead 4 = .ok (.iload_n 1, 1) := by decide +kernel
theorem dX12_isAhead_5 : decode cX12_isAhead 5 = .ok (.iaload, 1) := by decide +kernel
theorem dX12_isAhead_6 : decode cX12_isAhead 6 = .ok (.aload_n 0, 1) := by decide +kernel
theorem dX12_isAhead_7 : decode cX12_isAhead 7 = .ok (.getfield 140, 3) := by decide +kernel
theorem dX12_isAhead_10 : decode cX12_isAhead 10 = .ok (.iload_n 2, 1) := by decide +kernel
theorem dX12_isAhead_11 : decode cX12_isAhead 11 = .ok (.iaload, 1) := by decide +kernel
theorem dX12_isAhead_12 : decode cX12_isAhead 12 = .ok (.isub, 1) := by decide +kernel
theorem dX12_isAhead_13 : decode cX12_isAhead 13 = .ok (.istore_n 3, 1) := by decide +kernel
theorem dX12_isAhead_14 : decode cX12_isAhead 14 = .ok (.aload_n 0, 1) := by decide +kernel
theorem dX12_isAhead_15 : decode cX12_isAhead 15 = .ok (.getfield 143, 3) := by decide +kernel
theorem dX12_isAhead_18 : decode cX12_isAhead 18 = .ok (.iload_n 1, 1) := by decide +kernel
theorem dX12_isAhead_19 : decode cX12_isAhead 19 = .ok (.iaload, 1) := by decide +kernel
theorem dX12_isAhead_20 : decode cX12_isAhead 20 = .ok (.aload_n 0, 1) := by decide +kernel
theorem dX12_isAhead_21 : decode cX12_isAhead 21 = .ok (.getfield 143, 3) := by decide +kernel
theorem dX12_isAhead_24 : decode cX12_isAhead 24 = .ok (.iload_n 2, 1) := by decide +kernel
theorem dX12_isAhead_25 : decode cX12_isAhead 25 = .ok (.iaload, 1) := by decide +kernel
theorem dX12_isAhead_26 : decode cX12_isAhead 26 = .ok (.isub, 1) := by decide +kernel
theorem dX12_isAhead_27 : decode cX12_isAhead 27 = .ok (.istore 4, 2) := by decide +kernel
theorem dX12_isAhead_29 : decode cX12_isAhead 29 = .ok (.iload_n 3, 1) := by decide +kernel
theorem dX12_isAhead_30 : decode cX12_isAhead 30 = .ok (.ifCond .lt 22, 3) := by decide +kernel
theorem dX12_isAhead_33 : decode cX12_isAhead 33 = .ok (.iload_n 3, 1) := by decide +kernel
theorem dX12_isAhead_34 : decode cX12_isAhead 34 = .ok (.ifCond .ne 22, 3) := by decide +kernel
theorem dX12_isAhead_37 : decode cX12_isAhead 37 = .ok (.iload 4, 2) := by decide +kernel
theorem dX12_isAhead_39 : decode cX12_isAhead 39 = .ok (.ifCond .lt 13, 3) := by decide +kernel
theorem dX12_isAhead_42 : decode cX12_isAhead 42 = .ok (.iload 4, 2) := by decide +kernel
theorem dX12_isAhead_44 : decode cX12_isAhead 44 = .ok (.ifCond .ne 12, 3) := by decide +kernel
theorem dX12_isAhead_47 : decode cX12_isAhead 47 = .ok (.iload_n 1, 1) := by decide +kernel
theorem dX12_isAhead_48 : decode cX12_isAhead 48 = .ok (.iload_n 2, 1) := by decide +kernel
theorem dX12_isAhead_49 : decode cX12_isAhead 49 = .ok (.if_icmp .ge 7, 3) := by decide +kernel
theorem dX12_isAhead_52 : decode cX12_isAhead 52 = .ok (.iconst 1, 1) := by decide +kernel
theorem dX12_isAhead_53 : decode cX12_isAhead 53 = .ok (.goto 4, 3) := by decide +kernel
theorem dX12_isAhead_56 : decode cX12_isAhead 56 = .ok (.iconst 0, 1) := by decide +kernel
theorem dX12_isAhead_57 : decode cX12_isAhead 57 = .ok (.ireturn, 1) := by decide +kernel
theorem dX12_tells_0 : decode cX12_tells 0 = .ok (.aload_n 0, 1) := by decide +kernel
theorem dX12_tells_1 : decode cX12_tells 1 = .ok (.iload_n 2, 1) := by decide +kernel
theorem dX12_tells_2 : decode cX12_tells 2 = .ok (.putfield 342, 3) := by decide +kernel
theorem dX12_tells_5 : decode cX12_tells 5 = .ok (.aload_n 0, 1) := by decide +kernel
theorem dX12_tells_6 : decode cX12_tells 6 = .ok (.getfield 100, 3) := by decide +kernel
theorem dX12_tells_9 : decode cX12_tells 9 = .ok (.iconst 0, 1) := by decide +kernel
theorem dX12_tells_10 : decode cX12_tells 10 = .ok (.iload_n 2, 1) := by decide +kernel
theorem dX12_tells_11 : decode cX12_tells 11 = .ok (.invokestatic 391, 3) := by decide +kernel
theorem dX12_tells_14 : decode cX12_tells 14 = .ok (.iastore, 1) := by decide +kernel
theorem dX12_tells_15 : decode cX12_tells 15 = .ok (.aload_n 0, 1) := by decide +kernel
theorem dX12_tells_16 : decode cX12_tells 16 = .ok (.getfield 100, 3) := by decide +kernel
theorem dX12_tells_19 : decode cX12_tells 19 = .ok (.iconst 1, 1) := by decide +kernel
theorem dX12_tells_20 : decode cX12_tells 20 = .ok (.aload_n 0, 1) := by decide +kernel
theorem dX12_tells_21 : decode cX12_tells 21 = .ok (.getfield 146, 3) := by decide +kernel
theorem dX12_tells_24 : decode cX12_tells 24 = .ok (.iload_n 1, 1) := by decide +kernel
theorem dX12_tells_25 : decode cX12_tells 25 = .ok (.iaload, 1) := by decide +kernel
theorem dX12_tells_26 : decode cX12_tells 26 = .ok (.iastore, 1) := by decide +kernel
theorem dX12_tells_27 : decode cX12_tells 27 = .ok (.aload_n 0, 1) := by decide +kernel
theorem dX12_tells_28 : decode cX12_tells 28 = .ok (.getfield 100, 3) := by decide +kernel
theorem dX12_tells_31 : decode cX12_tells 31 = .ok (.iconst 2, 1) := by decide +kernel
theorem dX12_tells_32 : decode cX12_tells 32 = .ok (.aload_n 0, 1) := by decide +kernel
theorem dX12_tells_33 : decode cX12_tells 33 = .ok (.getfield 143, 3) := by decide +kernel
theorem dX12_tells_36 : decode cX12_tells 36 = .ok (.iload_n 1, 1) := by decide +kernel
theorem dX12_tells_37 : decode cX12_tells 37 = .ok (.iaload, 1) := by decide +kernel
theorem dX12_tells_38 : decode cX12_tells 38 = .ok (.bipush 60, 2) := by decide +kernel
theorem dX12_tells_40 : decode cX12_tells 40 = .ok (.idiv, 1) := by decide +kernel
theorem dX12_tells_41 : decode cX12_tells 41 = .ok (.iastore, 1) := by decide +kernel
theorem dX12_tells_42 : decode cX12_tells 42 = .ok (.aload_n 0, 1) := by decide +kernel
theorem dX12_tells_43 : decode cX12_tells 43 = .ok (.getfield 100, 3) := by decide +kernel
theorem dX12_tells_46 : decode cX12_tells 46 = .ok (.iconst 3, 1) := by decide +kernel
theorem dX12_tells_47 : decode cX12_tells 47 = .ok (.aload_n 0, 1) := by decide +kernel
theorem dX12_tells_48 : decode cX12_tells 48 = .ok (.getfield 152, 3) := by decide +kernel
theorem dX12_tells_51 : decode cX12_tells 51 = .ok (.iload_n 1, 1) := by decide +kernel
theorem dX12_tells_52 : decode cX12_tells 52 = .ok (.iaload, 1) := by decide +kernel
theorem dX12_tells_53 : decode cX12_tells 53 = .ok (.ifCond .ge 7, 3) := by decide +kernel
theorem dX12_tells_56 : decode cX12_tells 56 = .ok (.iconst 0, 1) := by decide +kernel
theorem dX12_tells_57 : decode cX12_tells 57 = .ok (.goto 4, 3) := by decide +kernel
theorem dX12_tells_60 : decode cX12_tells 60 = .ok (.iconst 1, 1) := by decide +kernel
theorem dX12_tells_61 : decode cX12_tells 61 = .ok (.iastore, 1) := by decide +kernel
theorem dX12_tells_62 : decode cX12_tells 62 = .ok (.aload_n 0, 1) := by decide +kernel
theorem dX12_tells_63 : decode cX12_tells 63 = .ok (.getfield 100, 3) := by decide +kernel
theorem dX12_tells_66 : decode cX12_tells 66 = .ok (.iconst 4, 1) := by decide +kernel
theorem dX12_tells_67 : decode cX12_tells 67 = .ok (.aload_n 0, 1) := by decide +kernel
theorem dX12_tells_68 : decode cX12_tells 68 = .ok (.getfield 140, 3) := by decide +kernel
theorem dX12_tells_71 : decode cX12_tells 71 = .ok (.iload_n 1, 1) := by decide +kernel
theorem dX12_tells_72 : decode cX12_tells 72 = .ok (.iaload, 1) := by decide +kernel
theorem dX12_tells_73 : decode cX12_tells 73 = .ok (.bipush 7, 2) := by decide +kernel
theorem dX12_tells_75 : decode cX12_tells 75 = .ok (.idiv, 1) := by decide +kernel
theorem dX12_tells_76 : decode cX12_tells 76 = .ok (.bipush 53, 2) := by decide +kernel
theorem dX12_tells_78 : decode cX12_tells 78 = .ok (.irem, 1) := by decide +kernel
theorem dX12_tells_79 : decode cX12_tells 79 = .ok (.iastore, 1) := by decide +kernel
theorem dX12_tells_80 : decode cX12_tells 80 = .ok (.aload_n 0, 1) := by decide +kernel
theorem dX12_tells_81 : decode cX12_tells 81 = .ok (.getfield 100, 3) := by decide +kernel
theorem dX12_tells_84 : decode cX12_tells 84 = .ok (.iconst 5, 1) := by decide +kernel
theorem dX12_tells_85 : decode cX12_tells 85 = .ok (.iload_n 3, 1) := by decide +kernel
theorem dX12_tells_86 : decode cX12_tells 86 = .ok (.iastore, 1) := by decide +kernel
theorem dX12_tells_87 : decode cX12_tells 87 = .ok (.return_, 1) := by decide +kernel
theorem dX12_latest_0 : decode cX12_latest 0 = .ok (.iconst (-1), 1) := by decide +kernel
theorem dX12_latest_1 : decode cX12_latest 1 = .ok (.istore_n 3, 1) := by decide +kernel
theorem dX12_latest_2 : decode cX12_latest 2 = .ok (.iconst 0, 1) := by decide +kernel
theorem dX12_latest_3 : decode cX12_latest 3 = .ok (.istore 4, 2) := by decide +kernel
theorem dX12_latest_5 : decode cX12_latest 5 = .ok (.iload 4, 2) := by decide +kernel
theorem dX12_latest_7 : decode cX12_latest 7 = .ok (.aload_n 0, 1) := by decide +kernel
theorem dX12_latest_8 : decode cX12_latest 8 = .ok (.getfield 372, 3) := by decide +kernel
theorem dX12_latest_11 : decode cX12_latest 11 = .ok (.if_icmp .ge 76, 3) := by decide +kernel
theorem dX12_latest_14 : decode cX12_latest 14 = .ok (.aload_n 0, 1) := by decide +kernel
theorem dX12_latest_15 : decode cX12_latest 15 = .ok (.iload 4, 2) := by decide +kernel
theorem dX12_latest_17 : decode cX12_latest 17 = .ok (.invokevirtual 394, 3) := by decide +kernel
theorem dX12_latest_20 : decode cX12_latest 20 = .ok (.ifCond .eq 32, 3) := by decide +kernel
theorem dX12_latest_23 : decode cX12_latest 23 = .ok (.aload_n 0, 1) := by decide +kernel
theorem dX12_latest_24 : decode cX12_latest 24 = .ok (.getfield 134, 3) := by decide +kernel
theorem dX12_latest_27 : decode cX12_latest 27 = .ok (.iload 4, 2) := by decide +kernel
theorem dX12_latest_29 : decode cX12_latest 29 = .ok (.iaload, 1) := by decide +kernel
theorem dX12_latest_30 : decode cX12_latest 30 = .ok (.iload_n 1, 1) := by decide +kernel
theorem dX12_latest_31 : decode cX12_latest 31 = .ok (.if_icmp .ne 21, 3) := by decide +kernel
theorem dX12_latest_34 : decode cX12_latest 34 = .ok (.iload_n 2, 1) := by decide +kernel
theorem dX12_latest_35 : decode cX12_latest 35 = .ok (.ifCond .lt 13, 3) := by decide +kernel
theorem dX12_latest_38 : decode cX12_latest 38 = .ok (.aload_n 0, 1) := by decide +kernel
theorem dX12_latest_39 : decode cX12_latest 39 = .ok (.iload 4, 2) := by decide +kernel
theorem dX12_latest_41 : decode cX12_latest 41 = .ok (.iload_n 2, 1) := by decide +kernel
theorem dX12_latest_42 : decode cX12_latest 42 = .ok (.invokevirtual 397, 3) := by decide +kernel
theorem dX12_latest_45 : decode cX12_latest 45 = .ok (.ifCond .eq 7, 3) := by decide +kernel
theorem dX12_latest_48 : decode cX12_latest 48 = .ok (.iconst 1, 1) := by decide +kernel
theorem dX12_latest_49 : decode cX12_latest 49 = .ok (.goto 4, 3) := by decide +kernel
theorem dX12_latest_52 : decode cX12_latest 52 = .ok (.iconst 0, 1) := by decide +kernel
theorem dX12_latest_53 : decode cX12_latest 53 = .ok (.istore 5, 2) := by decide +kernel
theorem dX12_latest_55 : decode cX12_latest 55 = .ok (.iload 5, 2) := by decide +kernel
theorem dX12_latest_57 : decode cX12_latest 57 = .ok (.ifCond .eq 22, 3) := by decide +kernel
theorem dX12_latest_60 : decode cX12_latest 60 = .ok (.iload_n 3, 1) := by decide +kernel
theorem dX12_latest_61 : decode cX12_latest 61 = .ok (.ifCond .lt 13, 3) := by decide +kernel
theorem dX12_latest_64 : decode cX12_latest 64 = .ok (.aload_n 0, 1) := by decide +kernel
theorem dX12_latest_65 : decode cX12_latest 65 = .ok (.iload_n 3, 1) := by decide +kernel
theorem dX12_latest_66 : decode cX12_latest 66 = .ok (.iload 4, 2) := by decide +kernel
theorem dX12_latest_68 : decode cX12_latest 68 = .ok (.invokevirtual 397, 3) := by decide +kernel
theorem dX12_latest_71 : decode cX12_latest 71 = .ok (.ifCond .eq 8, 3) := by decide +kernel
theorem dX12_latest_74 : decode cX12_latest 74 = .ok (.iload 4, 2) := by decide +kernel
theorem dX12_latest_76 : decode cX12_latest 76 = .ok (.goto 4, 3) := by decide +kernel
theorem dX12_latest_79 : decode cX12_latest 79 = .ok (.iload_n 3, 1) := by decide +kernel
theorem dX12_latest_80 : decode cX12_latest 80 = .ok (.istore_n 3, 1) := by decide +kernel
theorem dX12_latest_81 : decode cX12_latest 81 = .ok (.iinc 4 1, 3) := by decide +kernel
theorem dX12_latest_84 : decode cX12_latest 84 = .ok (.goto (-79), 3) := by decide +kernel
theorem dX12_latest_87 : decode cX12_latest 87 = .ok (.iload_n 3, 1) := by decide +kernel
theorem dX12_latest_88 : decode cX12_latest 88 = .ok (.ireturn, 1) := by decide +kernel
theorem dX12_findAll_0 : decode cX12_findAll 0 = .ok (.aload_n 0, 1) := by decide +kernel
theorem dX12_findAll_1 : decode cX12_findAll 1 = .ok (.iconst 0, 1) := by decide +kernel
theorem dX12_findAll_2 : decode cX12_findAll 2 = .ok (.putfield 400, 3) := by decide +kernel
theorem dX12_findAll_5 : decode cX12_findAll 5 = .ok (.iconst 0, 1) := by decide +kernel
theorem dX12_findAll_6 : decode cX12_findAll 6 = .ok (.istore_n 1, 1) := by decide +kernel
theorem dX12_findAll_7 : decode cX12_findAll 7 = .ok (.iload_n 1, 1) := by decide +kernel
theorem dX12_findAll_8 : decode cX12_findAll 8 = .ok (.aload_n 0, 1) := by decide +kernel
theorem dX12_findAll_9 : decode cX12_findAll 9 = .ok (.getfield 372, 3) := by decide +kernel
theorem dX12_findAll_12 : decode cX12_findAll 12 = .ok (.if_icmp .ge 79, 3) := by decide +kernel
theorem dX12_findAll_15 : decode cX12_findAll 15 = .ok (.aload_n 0, 1) := by decide +kernel
theorem dX12_findAll_16 : decode cX12_findAll 16 = .ok (.iload_n 1, 1) := by decide +kernel
theorem dX12_findAll_17 : decode cX12_findAll 17 = .ok (.invokevirtual 394, 3) := by decide +kernel
theorem dX12_findAll_20 : decode cX12_findAll 20 = .ok (.ifCond .eq 65, 3) := by decide +kernel
theorem dX12_findAll_23 : decode cX12_findAll 23 = .ok (.aload_n 0, 1) := by decide +kernel
theorem dX12_findAll_24 : decode cX12_findAll 24 = .ok (.getfield 400, 3) := by decide +kernel
theorem dX12_findAll_27 : decode cX12_findAll 27 = .ok (.istore_n 2, 1) := by decide +kernel
theorem dX12_findAll_28 : decode cX12_findAll 28 = .ok (.iload_n 2, 1) := by decide +kernel
theorem dX12_findAll_29 : decode cX12_findAll 29 = .ok (.ifCond .le 39, 3) := by decide +kernel
theorem dX12_findAll_32 : decode cX12_findAll 32 = .ok (.aload_n 0, 1) := by decide +kernel
theorem dX12_findAll_33 : decode cX12_findAll 33 = .ok (.iload_n 1, 1) := by decide +kernel
theorem dX12_findAll_34 : decode cX12_findAll 34 = .ok (.aload_n 0, 1) := by decide +kernel
theorem dX12_findAll_35 : decode cX12_findAll 35 = .ok (.getfield 167, 3) := by decide +kernel
theorem dX12_findAll_38 : decode cX12_findAll 38 = .ok (.iload_n 2, 1) := by decide +kernel
theorem dX12_findAll_39 : decode cX12_findAll 39 = .ok (.iconst 1, 1) := by decide +kernel
theorem dX12_findAll_40 : decode cX12_findAll 40 = .ok (.isub, 1) := by decide +kernel
theorem dX12_findAll_41 : decode cX12_findAll 41 = .ok (.iaload, 1) := by decide +kernel
theorem dX12_findAll_42 : decode cX12_findAll 42 = .ok (.invokevirtual 397, 3) := by decide +kernel
theorem dX12_findAll_45 : decode cX12_findAll 45 = .ok (.ifCond .eq 23, 3) := by decide +kernel
theorem dX12_findAll_48 : decode cX12_findAll 48 = .ok (.aload_n 0, 1) := by decide +kernel
theorem dX12_findAll_49 : decode cX12_findAll 49 = .ok (.getfield 167, 3) := by decide +kernel
theorem dX12_findAll_52 : decode cX12_findAll 52 = .ok (.iload_n 2, 1) := by decide +kernel
theorem dX12_findAll_53 : decode cX12_findAll 53 = .ok (.aload_n 0, 1) := by decide +kernel
theorem dX12_findAll_54 : decode cX12_findAll 54 = .ok (.getfield 167, 3) := by decide +kernel
theorem dX12_findAll_57 : decode cX12_findAll 57 = .ok (.iload_n 2, 1) := by decide +kernel
theorem dX12_findAll_58 : decode cX12_findAll 58 = .ok (.iconst 1, 1) := by decide +kernel
theorem dX12_findAll_59 : decode cX12_findAll 59 = .ok (.isub, 1) := by decide +kernel
theorem dX12_findAll_60 : decode cX12_findAll 60 = .ok (.iaload, 1) := by decide +kernel
theorem dX12_findAll_61 : decode cX12_findAll 61 = .ok (.iastore, 1) := by decide +kernel
theorem dX12_findAll_62 : decode cX12_findAll 62 = .ok (.iinc 2 (-1), 3) := by decide +kernel
theorem dX12_findAll_65 : decode cX12_findAll 65 = .ok (.goto (-37), 3) := by decide +kernel
theorem dX12_findAll_68 : decode cX12_findAll 68 = .ok (.aload_n 0, 1) := by decide +kernel
theorem dX12_findAll_69 : decode cX12_findAll 69 = .ok (.getfield 167, 3) := by decide +kernel
theorem dX12_findAll_72 : decode cX12_findAll 72 = .ok (.iload_n 2, 1) := by decide +kernel
theorem dX12_findAll_73 : decode cX12_findAll 73 = .ok (.iload_n 1, 1) := by decide +kernel
theorem dX12_findAll_74 : decode cX12_findAll 74 = .ok (.iastore, 1) := by decide +kernel
theorem dX12_findAll_75 : decode cX12_findAll 75 = .ok (.aload_n 0, 1) := by decide +kernel
theorem dX12_findAll_76 : decode cX12_findAll 76 = .ok (.dup, 1) := by decide +kernel
theorem dX12_findAll_77 : decode cX12_findAll 77 = .ok (.getfield 400, 3) := by decide +kernel
theorem dX12_findAll_80 : decode cX12_findAll 80 = .ok (.iconst 1, 1) := by decide +kernel
theorem dX12_findAll_81 : decode cX12_findAll 81 = .ok (.iadd, 1) := by decide +kernel
theorem dX12_findAll_82 : decode cX12_findAll 82 = .ok (.putfield 400, 3) := by decide +kernel
theorem dX12_findAll_85 : decode cX12_findAll 85 = .ok (.iinc 1 1, 3) := by decide +kernel
theorem dX12_findAll_88 : decode cX12_findAll 88 = .ok (.goto (-81), 3) := by decide +kernel
theorem dX12_findAll_91 : decode cX12_findAll 91 = .ok (.iconst 0, 1) := by decide +kernel
theorem dX12_findAll_92 : decode cX12_findAll 92 = .ok (.istore_n 1, 1) := by decide +kernel
theorem dX12_findAll_93 : decode cX12_findAll 93 = .ok (.iload_n 1, 1) := by decide +kernel
theorem dX12_findAll_94 : decode cX12_findAll 94 = .ok (.aload_n 0, 1) := by decide +kernel
theorem dX12_findAll_95 : decode cX12_findAll 95 = .ok (.getfield 400, 3) := by decide +kernel
theorem dX12_findAll_98 : decode cX12_findAll 98 = .ok (.if_icmp .ge 100, 3) := by decide +kernel
theorem dX12_findAll_101 : decode cX12_findAll 101 = .ok (.aload_n 0, 1) := by decide +kernel
theorem dX12_findAll_102 : decode cX12_findAll 102 = .ok (.getfield 167, 3) := by decide +kernel
theorem dX12_findAll_105 : decode cX12_findAll 105 = .ok (.iload_n 1, 1) := by decide +kernel
theorem dX12_findAll_106 : decode cX12_findAll 106 = .ok (.iaload, 1) := by decide +kernel
theorem dX12_findAll_107 : decode cX12_findAll 107 = .ok (.istore_n 2, 1) := by decide +kernel
theorem dX12_findAll_108 : decode cX12_findAll 108 = .ok (.aload_n 0, 1) := by decide +kernel
theorem dX12_findAll_109 : decode cX12_findAll 109 = .ok (.aload_n 0, 1) := by decide +kernel
theorem dX12_findAll_110 : decode cX12_findAll 110 = .ok (.getfield 134, 3) := by decide +kernel
theorem dX12_findAll_113 : decode cX12_findAll 113 = .ok (.iload_n 2, 1) := by decide +kernel
theorem dX12_findAll_114 : decode cX12_findAll 114 = .ok (.iaload, 1) := by decide +kernel
theorem dX12_findAll_115 : decode cX12_findAll 115 = .ok (.iload_n 2, 1) := by decide +kernel
theorem dX12_findAll_116 : decode cX12_findAll 116 = .ok (.invokevirtual 403, 3) := by decide +kernel
theorem dX12_findAll_119 : decode cX12_findAll 119 = .ok (.istore_n 3, 1) := by decide +kernel
theorem dX12_findAll_120 : decode cX12_findAll 120 = .ok (.aload_n 0, 1) := by decide +kernel
theorem dX12_findAll_121 : decode cX12_findAll 121 = .ok (.iload_n 2, 1) := by decide +kernel
theorem dX12_findAll_122 : decode cX12_findAll 122 = .ok (.aload_n 0, 1) := by decide +kernel
theorem dX12_findAll_123 : decode cX12_findAll 123 = .ok (.iload_n 2, 1) := by decide +kernel
theorem dX12_findAll_124 : decode cX12_findAll 124 = .ok (.invokevirtual 406, 3) := by decide +kernel
theorem dX12_findAll_127 : decode cX12_findAll 127 = .ok (.iload_n 3, 1) := by decide +kernel
theorem dX12_findAll_128 : decode cX12_findAll 128 = .ok (.ifCond .ge 7, 3) := by decide +kernel
theorem dX12_findAll_131 : decode cX12_findAll 131 = .ok (.iconst 0, 1) := by decide +kernel
theorem dX12_findAll_132 : decode cX12_findAll 132 = .ok (.goto 9, 3) := by decide +kernel
theorem dX12_findAll_135 : decode cX12_findAll 135 = .ok (.aload_n 0, 1) := by decide +kernel
theorem dX12_findAll_136 : decode cX12_findAll 136 = .ok (.getfield 170, 3) := by decide +kernel
theorem dX12_findAll_139 : decode cX12_findAll 139 = .ok (.iload_n 3, 1) := by decide +kernel
theorem dX12_findAll_140 : decode cX12_findAll 140 = .ok (.iaload, 1) := by decide +kernel
theorem dX12_findAll_141 : decode cX12_findAll 141 = .ok (.invokevirtual 409, 3) := by decide +kernel
theorem dX12_findAll_144 : decode cX12_findAll 144 = .ok (.aload_n 0, 1) := by decide +kernel
theorem dX12_findAll_145 : decode cX12_findAll 145 = .ok (.aload_n 0, 1) := by decide +kernel
theorem dX12_findAll_146 : decode cX12_findAll 146 = .ok (.iload_n 2, 1) := by decide +kernel
theorem dX12_findAll_147 : decode cX12_findAll 147 = .ok (.invokevirtual 413, 3) := by decide +kernel
theorem dX12_findAll_150 : decode cX12_findAll 150 = .ok (.invokevirtual 416, 3) := by decide +kernel
theorem dX12_findAll_153 : decode cX12_findAll 153 = .ok (.aload_n 0, 1) := by decide +kernel
theorem dX12_findAll_154 : decode cX12_findAll 154 = .ok (.getfield 170, 3) := by decide +kernel
theorem dX12_findAll_157 : decode cX12_findAll 157 = .ok (.iload_n 2, 1) := by decide +kernel
theorem dX12_findAll_158 : decode cX12_findAll 158 = .ok (.aload_n 0, 1) := by decide +kernel
theorem dX12_findAll_159 : decode cX12_findAll 159 = .ok (.getfield 349, 3) := by decide +kernel
theorem dX12_findAll_162 : decode cX12_findAll 162 = .ok (.iastore, 1) := by decide +kernel
theorem dX12_findAll_163 : decode cX12_findAll 163 = .ok (.aload_n 0, 1) := by decide +kernel
theorem dX12_findAll_164 : decode cX12_findAll 164 = .ok (.getfield 173, 3) := by decide +kernel
theorem dX12_findAll_167 : decode cX12_findAll 167 = .ok (.iload_n 2, 1) := by decide +kernel
theorem dX12_findAll_168 : decode cX12_findAll 168 = .ok (.aload_n 0, 1) := by decide +kernel
theorem dX12_findAll_169 : decode cX12_findAll 169 = .ok (.getfield 352, 3) := by decide +kernel
theorem dX12_findAll_172 : decode cX12_findAll 172 = .ok (.iastore, 1) := by decide +kernel
theorem dX12_findAll_173 : decode cX12_findAll 173 = .ok (.aload_n 0, 1) := by decide +kernel
theorem dX12_findAll_174 : decode cX12_findAll 174 = .ok (.getfield 176, 3) := by decide +kernel
theorem dX12_findAll_177 : decode cX12_findAll 177 = .ok (.iload_n 2, 1) := by decide +kernel
theorem dX12_findAll_178 : decode cX12_findAll 178 = .ok (.aload_n 0, 1) := by decide +kernel
theorem dX12_findAll_179 : decode cX12_findAll 179 = .ok (.iload_n 2, 1) := by decide +kernel
theorem dX12_findAll_180 : decode cX12_findAll 180 = .ok (.invokevirtual 419, 3) := by decide +kernel
theorem dX12_findAll_183 : decode cX12_findAll 183 = .ok (.ifCond .eq 7, 3) := by decide +kernel
theorem dX12_findAll_186 : decode cX12_findAll 186 = .ok (.iconst 0, 1) := by decide +kernel
theorem dX12_findAll_187 : decode cX12_findAll 187 = .ok (.goto 4, 3) := by decide +kernel
theorem dX12_findAll_190 : decode cX12_findAll 190 = .ok (.iconst 1, 1) := by decide +kernel
theorem dX12_findAll_191 : decode cX12_findAll 191 = .ok (.iastore, 1) := by decide +kernel
theorem dX12_findAll_192 : decode cX12_findAll 192 = .ok (.iinc 1 1, 3) := by decide +kernel
theorem dX12_findAll_195 : decode cX12_findAll 195 = .ok (.goto (-102), 3) := by decide +kernel
theorem dX12_findAll_198 : decode cX12_findAll 198 = .ok (.aload_n 0, 1) := by decide +kernel
theorem dX12_findAll_199 : decode cX12_findAll 199 = .ok (.iconst 0, 1) := by decide +kernel
theorem dX12_findAll_200 : decode cX12_findAll 200 = .ok (.putfield 422, 3) := by decide +kernel
theorem dX12_findAll_203 : decode cX12_findAll 203 = .ok (.iconst 0, 1) := by decide +kernel
theorem dX12_findAll_204 : decode cX12_findAll 204 = .ok (.istore_n 1, 1) := by decide +kernel
theorem dX12_findAll_205 : decode cX12_findAll 205 = .ok (.iload_n 1, 1) := by decide +kernel
theorem dX12_findAll_206 : decode cX12_findAll 206 = .ok (.aload_n 0, 1) := by decide +kernel
theorem dX12_findAll_207 : decode cX12_findAll 207 = .ok (.getfield 400, 3) := by decide +kernel
theorem dX12_findAll_210 : decode cX12_findAll 210 = .ok (.if_icmp .ge 127, 3) := by decide +kernel
theorem dX12_findAll_213 : decode cX12_findAll 213 = .ok (.iconst 1, 1) := by decide +kernel
theorem dX12_findAll_214 : decode cX12_findAll 214 = .ok (.istore_n 2, 1) := by decide +kernel
theorem dX12_findAll_215 : decode cX12_findAll 215 = .ok (.iconst 0, 1) := by decide +kernel
theorem dX12_findAll_216 : decode cX12_findAll 216 = .ok (.istore_n 3, 1) := by decide +kernel
theorem dX12_findAll_217 : decode cX12_findAll 217 = .ok (.iload_n 3, 1) := by decide +kernel
theorem dX12_findAll_218 : decode cX12_findAll 218 = .ok (.iload_n 1, 1) := by decide +kernel
theorem dX12_findAll_219 : decode cX12_findAll 219 = .ok (.if_icmp .ge 69, 3) := by decide +kernel
theorem dX12_findAll_222 : decode cX12_findAll 222 = .ok (.iload_n 2, 1) := by decide +kernel
theorem dX12_findAll_223 : decode cX12_findAll 223 = .ok (.ifCond .eq 57, 3) := by decide +kernel
theorem dX12_findAll_226 : decode cX12_findAll 226 = .ok (.aload_n 0, 1) := by decide +kernel
theorem dX12_findAll_227 : decode cX12_findAll 227 = .ok (.getfield 137, 3) := by decide +kernel
theorem dX12_findAll_230 : decode cX12_findAll 230 = .ok (.aload_n 0, 1) := by decide +kernel
theorem dX12_findAll_231 : decode cX12_findAll 231 = .ok (.getfield 167, 3) := by decide +kernel
theorem dX12_findAll_234 : decode cX12_findAll 234 = .ok (.iload_n 3, 1) := by decide +kernel
theorem dX12_findAll_235 : decode cX12_findAll 235 = .ok (.iaload, 1) := by decide +kernel
theorem dX12_findAll_236 : decode cX12_findAll 236 = .ok (.iaload, 1) := by decide +kernel
theorem dX12_findAll_237 : decode cX12_findAll 237 = .ok (.aload_n 0, 1) := by decide +kernel
theorem dX12_findAll_238 : decode cX12_findAll 238 = .ok (.getfield 137, 3) := by decide +kernel
theorem dX12_findAll_241 : decode cX12_findAll 241 = .ok (.aload_n 0, 1) := by decide +kernel
theorem dX12_findAll_242 : decode cX12_findAll 242 = .ok (.getfield 167, 3) := by decide +kernel
theorem dX12_findAll_245 : decode cX12_findAll 245 = .ok (.iload_n 1, 1) := by decide +kernel
theorem dX12_findAll_246 : decode cX12_findAll 246 = .ok (.iaload, 1) := by decide +kernel
theorem dX12_findAll_247 : decode cX12_findAll 247 = .ok (.iaload, 1) := by decide +kernel
theorem dX12_findAll_248 : decode cX12_findAll 248 = .ok (.if_icmp .ne 28, 3) := by decide +kernel
theorem dX12_findAll_251 : decode cX12_findAll 251 = .ok (.aload_n 0, 1) := by decide +kernel
theorem dX12_findAll_252 : decode cX12_findAll 252 = .ok (.getfield 140, 3) := by decide +kernel
theorem dX12_findAll_255 : decode cX12_findAll 255 = .ok (.aload_n 0, 1) := by decide +kernel
theorem dX12_findAll_256 : decode cX12_findAll 256 = .ok (.getfield 167, 3) := by decide +kernel
theorem dX12_findAll_259 : decode cX12_findAll 259 = .ok (.iload_n 3, 1) := by decide +kernel
theorem dX12_findAll_260 : decode cX12_findAll 260 = .ok (.iaload, 1) := by decide +kernel
theorem dX12_findAll_261 : decode cX12_findAll 261 = .ok (.iaload, 1) := by decide +kernel
theorem dX12_findAll_262 : decode cX12_findAll 262 = .ok (.aload_n 0, 1) := by decide +kernel
theorem dX12_findAll_263 : decode cX12_findAll 263 = .ok (.getfield 140, 3) := by decide +kernel
theorem dX12_findAll_266 : decode cX12_findAll 266 = .ok (.aload_n 0, 1) := by decide +kernel
theorem dX12_findAll_267 : decode cX12_findAll 267 = .ok (.getfield 167, 3) := by decide +kernel
theorem dX12_findAll_270 : decode cX12_findAll 270 = .ok (.iload_n 1, 1) := by decide +kernel
theorem dX12_findAll_271 : decode cX12_findAll 271 = .ok (.iaload, 1) := by decide +kernel
theorem dX12_findAll_272 : decode cX12_findAll 272 = .ok (.iaload, 1) := by decide +kernel
theorem dX12_findAll_273 : decode cX12_findAll 273 = .ok (.if_icmp .eq 7, 3) := by decide +kernel
theorem dX12_findAll_276 : decode cX12_findAll 276 = .ok (.iconst 1, 1) := by decide +kernel
theorem dX12_findAll_277 : decode cX12_findAll 277 = .ok (.goto 4, 3) := by decide +kernel
theorem dX12_findAll_280 : decode cX12_findAll 280 = .ok (.iconst 0, 1) := by decide +kernel
theorem dX12_findAll_281 : decode cX12_findAll 281 = .ok (.istore_n 2, 1) := by decide +kernel
theorem dX12_findAll_282 : decode cX12_findAll 282 = .ok (.iinc 3 1, 3) := by decide +kernel
theorem dX12_findAll_285 : decode cX12_findAll 285 = .ok (.goto (-68), 3) := by decide +kernel
theorem dX12_findAll_288 : decode cX12_findAll 288 = .ok (.iload_n 2, 1) := by decide +kernel
theorem dX12_findAll_289 : decode cX12_findAll 289 = .ok (.ifCond .eq 42, 3) := by decide +kernel
theorem dX12_findAll_292 : decode cX12_findAll 292 = .ok (.aload_n 0, 1) := by decide +kernel
theorem dX12_findAll_293 : decode cX12_findAll 293 = .ok (.aload_n 0, 1) := by decide +kernel
theorem dX12_findAll_294 : decode cX12_findAll 294 = .ok (.getfield 137, 3) := by decide +kernel
theorem dX12_findAll_297 : decode cX12_findAll 297 = .ok (.aload_n 0, 1) := by decide +kernel
theorem dX12_findAll_298 : decode cX12_findAll 298 = .ok (.getfield 167, 3) := by decide +kernel
theorem dX12_findAll_301 : decode cX12_findAll 301 = .ok (.iload_n 1, 1) := by decide +kernel
theorem dX12_findAll_302 : decode cX12_findAll 302 = .ok (.iaload, 1) := by decide +kernel
theorem dX12_findAll_303 : decode cX12_findAll 303 = .ok (.iaload, 1) := by decide +kernel
theorem dX12_findAll_304 : decode cX12_findAll 304 = .ok (.aload_n 0, 1) := by decide +kernel
theorem dX12_findAll_305 : decode cX12_findAll 305 = .ok (.getfield 140, 3) := by decide +kernel
theorem dX12_findAll_308 : decode cX12_findAll 308 = .ok (.aload_n 0, 1) := by decide +kernel
theorem dX12_findAll_309 : decode cX12_findAll 309 = .ok (.getfield 167, 3) := by decide +kernel
theorem dX12_findAll_312 : decode cX12_findAll 312 = .ok (.iload_n 1, 1) := by decide +kernel
theorem dX12_findAll_313 : decode cX12_findAll 313 = .ok (.iaload, 1) := by decide +kernel
theorem dX12_findAll_314 : decode cX12_findAll 314 = .ok (.iaload, 1) := by decide +kernel
theorem dX12_findAll_315 : decode cX12_findAll 315 = .ok (.invokevirtual 425, 3) := by decide +kernel
theorem dX12_findAll_318 : decode cX12_findAll 318 = .ok (.aload_n 0, 1) := by decide +kernel
theorem dX12_findAll_319 : decode cX12_findAll 319 = .ok (.dup, 1) := by decide +kernel
theorem dX12_findAll_320 : decode cX12_findAll 320 = .ok (.getfield 422, 3) := by decide +kernel
theorem dX12_findAll_323 : decode cX12_findAll 323 = .ok (.aload_n 0, 1) := by decide +kernel
theorem dX12_findAll_324 : decode cX12_findAll 324 = .ok (.getfield 428, 3) := by decide +kernel
theorem dX12_findAll_327 : decode cX12_findAll 327 = .ok (.iadd, 1) := by decide +kernel
theorem dX12_findAll_328 : decode cX12_findAll 328 = .ok (.putfield 422, 3) := by decide +kernel
theorem dX12_findAll_331 : decode cX12_findAll 331 = .ok (.iinc 1 1, 3) := by decide +kernel
theorem dX12_findAll_334 : decode cX12_findAll 334 = .ok (.goto (-129), 3) := by decide +kernel
theorem dX12_findAll_337 : decode cX12_findAll 337 = .ok (.return_, 1) := by decide +kernel
theorem dX12_isAlone_0 : decode cX12_isAlone 0 = .ok (.aload_n 0, 1) := by decide +kernel
theorem dX12_isAlone_1 : decode cX12_isAlone 1 = .ok (.getfield 134, 3) := by decide +kernel
theorem dX12_isAlone_4 : decode cX12_isAlone 4 = .ok (.iload_n 1, 1) := by decide +kernel
theorem dX12_isAlone_5 : decode cX12_isAlone 5 = .ok (.iaload, 1) := by decide +kernel
theorem dX12_isAlone_6 : decode cX12_isAlone 6 = .ok (.istore_n 2, 1) := by decide +kernel
theorem dX12_isAlone_7 : decode cX12_isAlone 7 = .ok (.aload_n 0, 1) := by decide +kernel
theorem dX12_isAlone_8 : decode cX12_isAlone 8 = .ok (.getfield 143, 3) := by decide +kernel
theorem dX12_isAlone_11 : decode cX12_isAlone 11 = .ok (.iload_n 1, 1) := by decide +kernel
theorem dX12_isAlone_12 : decode cX12_isAlone 12 = .ok (.iaload, 1) := by decide +kernel
theorem dX12_isAlone_13 : decode cX12_isAlone 13 = .ok (.aload_n 0, 1) := by decide +kernel
theorem dX12_isAlone_14 : decode cX12_isAlone 14 = .ok (.getfield 146, 3) := by decide +kernel
theorem dX12_isAlone_17 : decode cX12_isAlone 17 = .ok (.iload_n 1, 1) := by decide +kernel
theorem dX12_isAlone_18 : decode cX12_isAlone 18 = .ok (.iaload, 1) := by decide +kernel
theorem dX12_isAlone_19 : decode cX12_isAlone 19 = .ok (.iadd, 1) := by decide +kernel
theorem dX12_isAlone_20 : decode cX12_isAlone 20 = .ok (.iconst 1, 1) := by decide +kernel
theorem dX12_isAlone_21 : decode cX12_isAlone 21 = .ok (.isub, 1) := by decide +kernel
theorem dX12_isAlone_22 : decode cX12_isAlone 22 = .ok (.istore_n 3, 1) := by decide +kernel
theorem dX12_isAlone_23 : decode cX12_isAlone 23 = .ok (.aload_n 0, 1) := by decide +kernel
theorem dX12_isAlone_24 : decode cX12_isAlone 24 = .ok (.iload_n 1, 1) := by decide +kernel
theorem dX12_isAlone_25 : decode cX12_isAlone 25 = .ok (.invokevirtual 406, 3) := by decide +kernel
theorem dX12_isAlone_28 : decode cX12_isAlone 28 = .ok (.istore 4, 2) := by decide +kernel
theorem dX12_isAlone_30 : decode cX12_isAlone 30 = .ok (.aload_n 0, 1) := by decide +kernel
theorem dX12_isAlone_31 : decode cX12_isAlone 31 = .ok (.getfield 143, 3) := by decide +kernel
theorem dX12_isAlone_34 : decode cX12_isAlone 34 = .ok (.iload_n 1, 1) := by decide +kernel
theorem dX12_isAlone_35 : decode cX12_isAlone 35 = .ok (.iaload, 1) := by decide +kernel
theorem dX12_isAlone_36 : decode cX12_isAlone 36 = .ok (.aload_n 0, 1) := by decide +kernel
theorem dX12_isAlone_37 : decode cX12_isAlone 37 = .ok (.getfield 118, 3) := by decide +kernel
theorem dX12_isAlone_40 : decode cX12_isAlone 40 = .ok (.iload_n 2, 1) := by decide +kernel
theorem dX12_isAlone_41 : decode cX12_isAlone 41 = .ok (.iaload, 1) := by decide +kernel
theorem dX12_isAlone_42 : decode cX12_isAlone 42 = .ok (.if_icmp .lt 17, 3) := by decide +kernel
theorem dX12_isAlone_45 : decode cX12_isAlone 45 = .ok (.iload_n 3, 1) := by decide +kernel
theorem dX12_isAlone_46 : decode cX12_isAlone 46 = .ok (.aload_n 0, 1) := by decide +kernel
theorem dX12_isAlone_47 : decode cX12_isAlone 47 = .ok (.getfield 121, 3) := by decide +kernel
theorem dX12_isAlone_50 : decode cX12_isAlone 50 = .ok (.iload_n 2, 1) := by decide +kernel
theorem dX12_isAlone_51 : decode cX12_isAlone 51 = .ok (.iaload, 1) := by decide +kernel
theorem dX12_isAlone_52 : decode cX12_isAlone 52 = .ok (.if_icmp .gt 7, 3) := by decide +kernel
theorem dX12_isAlone_55 : decode cX12_isAlone 55 = .ok (.iconst 1, 1) := by decide +kernel
theorem dX12_isAlone_56 : decode cX12_isAlone 56 = .ok (.goto 4, 3) := by decide +kernel
theorem dX12_isAlone_59 : decode cX12_isAlone 59 = .ok (.iconst 0, 1) := by decide +kernel
theorem dX12_isAlone_60 : decode cX12_isAlone 60 = .ok (.istore 5, 2) := by decide +kernel
theorem dX12_isAlone_62 : decode cX12_isAlone 62 = .ok (.iload 5, 2) := by decide +kernel
theorem dX12_isAlone_64 : decode cX12_isAlone 64 = .ok (.ifCond .eq 48, 3) := by decide +kernel
theorem dX12_isAlone_67 : decode cX12_isAlone 67 = .ok (.aload_n 0, 1) := by decide +kernel
theorem dX12_isAlone_68 : decode cX12_isAlone 68 = .ok (.getfield 152, 3) := by decide +kernel
theorem dX12_isAlone_71 : decode cX12_isAlone 71 = .ok (.iload_n 1, 1) := by decide +kernel
theorem dX12_isAlone_72 : decode cX12_isAlone 72 = .ok (.iaload, 1) := by decide +kernel
theorem dX12_isAlone_73 : decode cX12_isAlone 73 = .ok (.ifCond .lt 22, 3) := by decide +kernel
theorem dX12_isAlone_76 : decode cX12_isAlone 76 = .ok (.aload_n 0, 1) := by decide +kernel
theorem dX12_isAlone_77 : decode cX12_isAlone 77 = .ok (.getfield 152, 3) := by decide +kernel
theorem dX12_isAlone_80 : decode cX12_isAlone 80 = .ok (.iload_n 1, 1) := by decide +kernel
theorem dX12_isAlone_81 : decode cX12_isAlone 81 = .ok (.iaload, 1) := by decide +kernel
theorem dX12_isAlone_82 : decode cX12_isAlone 82 = .ok (.aload_n 0, 1) := by decide +kernel
theorem dX12_isAlone_83 : decode cX12_isAlone 83 = .ok (.getfield 143, 3) := by decide +kernel
theorem dX12_isAlone_86 : decode cX12_isAlone 86 = .ok (.iload_n 1, 1) := by decide +kernel
theorem dX12_isAlone_87 : decode cX12_isAlone 87 = .ok (.iaload, 1) := by decide +kernel
theorem dX12_isAlone_88 : decode cX12_isAlone 88 = .ok (.iload_n 3, 1) := by decide +kernel
theorem dX12_isAlone_89 : decode cX12_isAlone 89 = .ok (.invokestatic 358, 3) := by decide +kernel
theorem dX12_isAlone_92 : decode cX12_isAlone 92 = .ok (.ifCond .eq 20, 3) := by decide +kernel
theorem dX12_isAlone_95 : decode cX12_isAlone 95 = .ok (.iload 4, 2) := by decide +kernel
theorem dX12_isAlone_97 : decode cX12_isAlone 97 = .ok (.iconst 1, 1) := by decide +kernel
theorem dX12_isAlone_98 : decode cX12_isAlone 98 = .ok (.iand, 1) := by decide +kernel
theorem dX12_isAlone_99 : decode cX12_isAlone 99 = .ok (.iconst 1, 1) := by decide +kernel
theorem dX12_isAlone_100 : decode cX12_isAlone 100 = .ok (.if_icmp .eq 8, 3) := by decide +kernel
theorem dX12_isAlone_103 : decode cX12_isAlone 103 = .ok (.iload 4, 2) := by decide +kernel
theorem dX12_isAlone_105 : decode cX12_isAlone 105 = .ok (.ifCond .ne 7, 3) := by decide +kernel
theorem dX12_isAlone_108 : decode cX12_isAlone 108 = .ok (.iconst 1, 1) := by decide +kernel
theorem dX12_isAlone_109 : decode cX12_isAlone 109 = .ok (.goto 4, 3) := by decide +kernel
theorem dX12_isAlone_112 : decode cX12_isAlone 112 = .ok (.iconst 0, 1) := by decide +kernel
theorem dX12_isAlone_113 : decode cX12_isAlone 113 = .ok (.ireturn, 1) := by decide +kernel
theorem dX12_wayBetween_0 : decode cX12_wayBetween 0 = .ok (.iload_n 0, 1) := by decide +kernel
theorem dX12_wayBetween_1 : decode cX12_wayBetween 1 = .ok (.iload_n 2, 1) := by decide +kernel
theorem dX12_wayBetween_2 : decode cX12_wayBetween 2 = .ok (.if_icmp .ge 9, 3) := by decide +kernel
theorem dX12_wayBetween_5 : decode cX12_wayBetween 5 = .ok (.iload_n 2, 1) := by decide +kernel
theorem dX12_wayBetween_6 : decode cX12_wayBetween 6 = .ok (.iload_n 0, 1) := by decide +kernel
theorem dX12_wayBetween_7 : decode cX12_wayBetween 7 = .ok (.isub, 1) := by decide +kernel
theorem dX12_wayBetween_8 : decode cX12_wayBetween 8 = .ok (.goto 6, 3) := by decide +kernel
theorem dX12_wayBetween_11 : decode cX12_wayBetween 11 = .ok (.iload_n 0, 1) := by decide +kernel
theorem dX12_wayBetween_12 : decode cX12_wayBetween 12 = .ok (.iload_n 2, 1) := by decide +kernel
theorem dX12_wayBetween_13 : decode cX12_wayBetween 13 = .ok (.isub, 1) := by decide +kernel
theorem dX12_wayBetween_14 : decode cX12_wayBetween 14 = .ok (.iload_n 1, 1) := by decide +kernel
theorem dX12_wayBetween_15 : decode cX12_wayBetween 15 = .ok (.iload_n 3, 1) := by decide +kernel
theorem dX12_wayBetween_16 : decode cX12_wayBetween 16 = .ok (.if_icmp .ge 9, 3) := by decide +kernel
theorem dX12_wayBetween_19 : decode cX12_wayBetween 19 = .ok (.iload_n 3, 1) := by decide +kernel
theorem dX12_wayBetween_20 : decode cX12_wayBetween 20 = .ok (.iload_n 1, 1) := by decide +kernel
theorem dX12_wayBetween_21 : decode cX12_wayBetween 21 = .ok (.isub, 1) := by decide +kernel
theorem dX12_wayBetween_22 : decode cX12_wayBetween 22 = .ok (.goto 6, 3) := by decide +kernel
theorem dX12_wayBetween_25 : decode cX12_wayBetween 25 = .ok (.iload_n 1, 1) := by decide +kernel
theorem dX12_wayBetween_26 : decode cX12_wayBetween 26 = .ok (.iload_n 3, 1) := by decide +kernel
theorem dX12_wayBetween_27 : decode cX12_wayBetween 27 = .ok (.isub, 1) := by decide +kernel
theorem dX12_wayBetween_28 : decode cX12_wayBetween 28 = .ok (.iadd, 1) := by decide +kernel
theorem dX12_wayBetween_29 : decode cX12_wayBetween 29 = .ok (.ireturn, 1) := by decide +kernel
theorem dX12_areBoth_0 : decode cX12_areBoth 0 = .ok (.aload_n 0, 1) := by decide +kernel
theorem dX12_areBoth_1 : decode cX12_areBoth 1 = .ok (.getfield 143, 3) := by decide +kernel
theorem dX12_areBoth_4 : decode cX12_areBoth 4 = .ok (.iload_n 1, 1) := by decide +kernel
theorem dX12_areBoth_5 : decode cX12_areBoth 5 = .ok (.iaload, 1) := by decide +kernel
theorem dX12_areBoth_6 : decode cX12_areBoth 6 = .ok (.aload_n 0, 1) := by decide +kernel
theorem dX12_areBoth_7 : decode cX12_areBoth 7 = .ok (.getfield 143, 3) := by decide +kernel
theorem dX12_areBoth_10 : decode cX12_areBoth 10 = .ok (.iload_n 2, 1) := by decide +kernel
theorem dX12_areBoth_11 : decode cX12_areBoth 11 = .ok (.iaload, 1) := by decide +kernel
theorem dX12_areBoth_12 : decode cX12_areBoth 12 = .ok (.if_icmp .lt 23, 3) := by decide +kernel
theorem dX12_areBoth_15 : decode cX12_areBoth 15 = .ok (.aload_n 0, 1) := by decide +kernel
theorem dX12_areBoth_16 : decode cX12_areBoth 16 = .ok (.getfield 143, 3) := by decide +kernel
theorem dX12_areBoth_19 : decode cX12_areBoth 19 = .ok (.iload_n 1, 1) := by decide +kernel
theorem dX12_areBoth_20 : decode cX12_areBoth 20 = .ok (.iaload, 1) := by decide +kernel
theorem dX12_areBoth_21 : decode cX12_areBoth 21 = .ok (.aload_n 0, 1) := by decide +kernel
theorem dX12_areBoth_22 : decode cX12_areBoth 22 = .ok (.getfield 143, 3) := by decide +kernel
theorem dX12_areBoth_25 : decode cX12_areBoth 25 = .ok (.iload_n 2, 1) := by decide +kernel
theorem dX12_areBoth_26 : decode cX12_areBoth 26 = .ok (.iaload, 1) := by decide +kernel
theorem dX12_areBoth_27 : decode cX12_areBoth 27 = .ok (.if_icmp .ne 12, 3) := by decide +kernel
theorem dX12_areBoth_30 : decode cX12_areBoth 30 = .ok (.iload_n 1, 1) := by decide +kernel
theorem dX12_areBoth_31 : decode cX12_areBoth 31 = .ok (.iload_n 2, 1) := by decide +kernel
theorem dX12_areBoth_32 : decode cX12_areBoth 32 = .ok (.if_icmp .ge 7, 3) := by decide +kernel
theorem dX12_areBoth_35 : decode cX12_areBoth 35 = .ok (.iload_n 1, 1) := by decide +kernel
theorem dX12_areBoth_36 : decode cX12_areBoth 36 = .ok (.goto 4, 3) := by decide +kernel
theorem dX12_areBoth_39 : decode cX12_areBoth 39 = .ok (.iload_n 2, 1) := by decide +kernel
theorem dX12_areBoth_40 : decode cX12_areBoth 40 = .ok (.istore_n 3, 1) := by decide +kernel
theorem dX12_areBoth_41 : decode cX12_areBoth 41 = .ok (.iload_n 3, 1) := by decide +kernel
theorem dX12_areBoth_42 : decode cX12_areBoth 42 = .ok (.iload_n 1, 1) := by decide +kernel
theorem dX12_areBoth_43 : decode cX12_areBoth 43 = .ok (.if_icmp .ne 7, 3) := by decide +kernel
theorem dX12_areBoth_46 : decode cX12_areBoth 46 = .ok (.iload_n 2, 1) := by decide +kernel
theorem dX12_areBoth_47 : decode cX12_areBoth 47 = .ok (.goto 4, 3) := by decide +kernel
theorem dX12_areBoth_50 : decode cX12_areBoth 50 = .ok (.iload_n 1, 1) := by decide +kernel
theorem dX12_areBoth_51 : decode cX12_areBoth 51 = .ok (.istore 4, 2) := by decide +kernel
theorem dX12_areBoth_53 : decode cX12_areBoth 53 = .ok (.aload_n 0, 1) := by decide +kernel
theorem dX12_areBoth_54 : decode cX12_areBoth 54 = .ok (.getfield 109, 3) := by decide +kernel
theorem dX12_areBoth_57 : decode cX12_areBoth 57 = .ok (.aload_n 0, 1) := by decide +kernel
theorem dX12_areBoth_58 : decode cX12_areBoth 58 = .ok (.getfield 134, 3) := by decide +kernel
theorem dX12_areBoth_61 : decode cX12_areBoth 61 = .ok (.iload_n 1, 1) := by decide +kernel
theorem dX12_areBoth_62 : decode cX12_areBoth 62 = .ok (.iaload, 1) := by decide +kernel
theorem dX12_areBoth_63 : decode cX12_areBoth 63 = .ok (.iaload, 1) := by decide +kernel
theorem dX12_areBoth_64 : decode cX12_areBoth 64 = .ok (.aload_n 0, 1) := by decide +kernel
theorem dX12_areBoth_65 : decode cX12_areBoth 65 = .ok (.getfield 112, 3) := by decide +kernel
theorem dX12_areBoth_68 : decode cX12_areBoth 68 = .ok (.aload_n 0, 1) := by decide +kernel
theorem dX12_areBoth_69 : decode cX12_areBoth 69 = .ok (.getfield 134, 3) := by decide +kernel
theorem dX12_areBoth_72 : decode cX12_areBoth 72 = .ok (.iload_n 1, 1) := by decide +kernel
theorem dX12_areBoth_73 : decode cX12_areBoth 73 = .ok (.iaload, 1) := by decide +kernel
theorem dX12_areBoth_74 : decode cX12_areBoth 74 = .ok (.iaload, 1) := by decide +kernel
theorem dX12_areBoth_75 : decode cX12_areBoth 75 = .ok (.aload_n 0, 1) := by decide +kernel
theorem dX12_areBoth_76 : decode cX12_areBoth 76 = .ok (.getfield 109, 3) := by decide +kernel
theorem dX12_areBoth_79 : decode cX12_areBoth 79 = .ok (.aload_n 0, 1) := by decide +kernel
theorem dX12_areBoth_80 : decode cX12_areBoth 80 = .ok (.getfield 134, 3) := by decide +kernel
theorem dX12_areBoth_83 : decode cX12_areBoth 83 = .ok (.iload_n 2, 1) := by decide +kernel
theorem dX12_areBoth_84 : decode cX12_areBoth 84 = .ok (.iaload, 1) := by decide +kernel
theorem dX12_areBoth_85 : decode cX12_areBoth 85 = .ok (.iaload, 1) := by decide +kernel
theorem dX12_areBoth_86 : decode cX12_areBoth 86 = .ok (.aload_n 0, 1) := by decide +kernel
theorem dX12_areBoth_87 : decode cX12_areBoth 87 = .ok (.getfield 112, 3) := by decide +kernel
theorem dX12_areBoth_90 : decode cX12_areBoth 90 = .ok (.aload_n 0, 1) := by decide +kernel
theorem dX12_areBoth_91 : decode cX12_areBoth 91 = .ok (.getfield 134, 3) := by decide +kernel
theorem dX12_areBoth_94 : decode cX12_areBoth 94 = .ok (.iload_n 2, 1) := by decide +kernel
theorem dX12_areBoth_95 : decode cX12_areBoth 95 = .ok (.iaload, 1) := by decide +kernel
theorem dX12_areBoth_96 : decode cX12_areBoth 96 = .ok (.iaload, 1) := by decide +kernel
theorem dX12_areBoth_97 : decode cX12_areBoth 97 = .ok (.invokestatic 431, 3) := by decide +kernel
theorem dX12_areBoth_100 : decode cX12_areBoth 100 = .ok (.istore 5, 2) := by decide +kernel
theorem dX12_areBoth_102 : decode cX12_areBoth 102 = .ok (.aload_n 0, 1) := by decide +kernel
theorem dX12_areBoth_103 : decode cX12_areBoth 103 = .ok (.getfield 143, 3) := by decide +kernel
theorem dX12_areBoth_106 : decode cX12_areBoth 106 = .ok (.iload 4, 2) := by decide +kernel
theorem dX12_areBoth_108 : decode cX12_areBoth 108 = .ok (.iaload, 1) := by decide +kernel
theorem dX12_areBoth_109 : decode cX12_areBoth 109 = .ok (.aload_n 0, 1) := by decide +kernel
theorem dX12_areBoth_110 : decode cX12_areBoth 110 = .ok (.getfield 143, 3) := by decide +kernel
theorem dX12_areBoth_113 : decode cX12_areBoth 113 = .ok (.iload_n 3, 1) := by decide +kernel
theorem dX12_areBoth_114 : decode cX12_areBoth 114 = .ok (.iaload, 1) := by decide +kernel
theorem dX12_areBoth_115 : decode cX12_areBoth 115 = .ok (.aload_n 0, 1) := by decide +kernel
theorem dX12_areBoth_116 : decode cX12_areBoth 116 = .ok (.getfield 146, 3) := by decide +kernel
theorem dX12_areBoth_119 : decode cX12_areBoth 119 = .ok (.iload_n 3, 1) := by decide +kernel
theorem dX12_areBoth_120 : decode cX12_areBoth 120 = .ok (.iaload, 1) := by decide +kernel
theorem dX12_areBoth_121 : decode cX12_areBoth 121 = .ok (.iadd, 1) := by decide +kernel
theorem dX12_areBoth_122 : decode cX12_areBoth 122 = .ok (.aload_n 0, 1) := by decide +kernel
theorem dX12_areBoth_123 : decode cX12_areBoth 123 = .ok (.getfield 219, 3) := by decide +kernel
theorem dX12_areBoth_126 : decode cX12_areBoth 126 = .ok (.iload 5, 2) := by decide +kernel
theorem dX12_areBoth_128 : decode cX12_areBoth 128 = .ok (.imul, 1) := by decide +kernel
theorem dX12_areBoth_129 : decode cX12_areBoth 129 = .ok (.iadd, 1) := by decide +kernel
theorem dX12_areBoth_130 : decode cX12_areBoth 130 = .ok (.if_icmp .lt 7, 3) := by decide +kernel
theorem dX12_areBoth_133 : decode cX12_areBoth 133 = .ok (.iconst 1, 1) := by decide +kernel
theorem dX12_areBoth_134 : decode cX12_areBoth 134 = .ok (.goto 4, 3) := by decide +kernel
theorem dX12_areBoth_137 : decode cX12_areBoth 137 = .ok (.iconst 0, 1) := by decide +kernel
theorem dX12_areBoth_138 : decode cX12_areBoth 138 = .ok (.ireturn, 1) := by decide +kernel
theorem dX12_findFewest_0 : decode cX12_findFewest 0 = .ok (.aload_n 0, 1) := by decide +kernel
theorem dX12_findFewest_1 : decode cX12_findFewest 1 = .ok (.iconst 0, 1) := by decide +kernel
theorem dX12_findFewest_2 : decode cX12_findFewest 2 = .ok (.putfield 435, 3) := by decide +kernel
theorem dX12_findFewest_5 : decode cX12_findFewest 5 = .ok (.iconst 0, 1) := by decide +kernel
theorem dX12_findFewest_6 : decode cX12_findFewest 6 = .ok (.istore_n 3, 1) := by decide +kernel
theorem dX12_findFewest_7 : decode cX12_findFewest 7 = .ok (.iload_n 3, 1) := by decide +kernel
theorem dX12_findFewest_8 : decode cX12_findFewest 8 = .ok (.aload_n 0, 1) := by decide +kernel
theorem dX12_findFewest_9 : decode cX12_findFewest 9 = .ok (.getfield 372, 3) := by decide +kernel
theorem dX12_findFewest_12 : decode cX12_findFewest 12 = .ok (.if_icmp .ge 67, 3) := by decide +kernel
theorem dX12_findFewest_15 : decode cX12_findFewest 15 = .ok (.aload_n 0, 1) := by decide +kernel
theorem dX12_findFewest_16 : decode cX12_findFewest 16 = .ok (.iload_n 3, 1) := by decide +kernel
theorem dX12_findFewest_17 : decode cX12_findFewest 17 = .ok (.invokevirtual 394, 3) := by decide +kernel
theorem dX12_findFewest_20 : decode cX12_findFewest 20 = .ok (.ifCond .eq 53, 3) := by decide +kernel
theorem dX12_findFewest_23 : decode cX12_findFewest 23 = .ok (.aload_n 0, 1) := by decide +kernel
theorem dX12_findFewest_24 : decode cX12_findFewest 24 = .ok (.getfield 137, 3) := by decide +kernel
theorem dX12_findFewest_27 : decode cX12_findFewest 27 = .ok (.iload_n 3, 1) := by decide +kernel
theorem dX12_findFewest_28 : decode cX12_findFewest 28 = .ok (.iaload, 1) := by decide +kernel
theorem dX12_findFewest_29 : decode cX12_findFewest 29 = .ok (.iload_n 1, 1) := by decide +kernel
theorem dX12_findFewest_30 : decode cX12_findFewest 30 = .ok (.if_icmp .ne 43, 3) := by decide +kernel
theorem dX12_findFewest_33 : decode cX12_findFewest 33 = .ok (.aload_n 0, 1) := by decide +kernel
theorem dX12_findFewest_34 : decode cX12_findFewest 34 = .ok (.getfield 140, 3) := by decide +kernel
theorem dX12_findFewest_37 : decode cX12_findFewest 37 = .ok (.iload_n 3, 1) := by decide +kernel
theorem dX12_findFewest_38 : decode cX12_findFewest 38 = .ok (.iaload, 1) := by decide +kernel
theorem dX12_findFewest_39 : decode cX12_findFewest 39 = .ok (.iload_n 2, 1) := by decide +kernel
theorem dX12_findFewest_40 : decode cX12_findFewest 40 = .ok (.if_icmp .ne 33, 3) := by decide +kernel
theorem dX12_findFewest_43 : decode cX12_findFewest 43 = .ok (.aload_n 0, 1) := by decide +kernel
theorem dX12_findFewest_44 : decode cX12_findFewest 44 = .ok (.getfield 176, 3) := by decide +kernel
theorem dX12_findFewest_47 : decode cX12_findFewest 47 = .ok (.iload_n 3, 1) := by decide +kernel
theorem dX12_findFewest_48 : decode cX12_findFewest 48 = .ok (.iaload, 1) := by decide +kernel
theorem dX12_findFewest_49 : decode cX12_findFewest 49 = .ok (.iconst 1, 1) := by decide +kernel
theorem dX12_findFewest_50 : decode cX12_findFewest 50 = .ok (.if_icmp .eq 23, 3) := by decide +kernel
theorem dX12_findFewest_53 : decode cX12_findFewest 53 = .ok (.aload_n 0, 1) := by decide +kernel
theorem dX12_findFewest_54 : decode cX12_findFewest 54 = .ok (.getfield 179, 3) := by decide +kernel
theorem dX12_findFewest_57 : decode cX12_findFewest 57 = .ok (.aload_n 0, 1) := by decide +kernel
theorem dX12_findFewest_58 : decode cX12_findFewest 58 = .ok (.getfield 435, 3) := by decide +kernel
theorem dX12_findFewest_61 : decode cX12_findFewest 61 = .ok (.iload_n 3, 1) := by decide +kernel
theorem dX12_findFewest_62 : decode cX12_findFewest 62 = .ok (.iastore, 1) := by decide +kernel
theorem dX12_findFewest_63 : decode cX12_findFewest 63 = .ok (.aload_n 0, 1) := by decide +kernel
theorem dX12_findFewest_64 : decode cX12_findFewest 64 = .ok (.dup, 1) := by decide +kernel
theorem dX12_findFewest_65 : decode cX12_findFewest 65 = .ok (.getfield 435, 3) := by decide +kernel
theorem dX12_findFewest_68 : decode cX12_findFewest 68 = .ok (.iconst 1, 1) := by decide +kernel
theorem dX12_findFewest_69 : decode cX12_findFewest 69 = .ok (.iadd, 1) := by decide +kernel
theorem dX12_findFewest_70 : decode cX12_findFewest 70 = .ok (.putfield 435, 3) := by decide +kernel
theorem dX12_findFewest_73 : decode cX12_findFewest 73 = .ok (.iinc 3 1, 3) := by decide +kernel
theorem dX12_findFewest_76 : decode cX12_findFewest 76 = .ok (.goto (-69), 3) := by decide +kernel
theorem dX12_findFewest_79 : decode cX12_findFewest 79 = .ok (.iconst 0, 1) := by decide +kernel
theorem dX12_findFewest_80 : decode cX12_findFewest 80 = .ok (.istore_n 3, 1) := by decide +kernel
theorem dX12_findFewest_81 : decode cX12_findFewest 81 = .ok (.iload_n 3, 1) := by decide +kernel
theorem dX12_findFewest_82 : decode cX12_findFewest 82 = .ok (.aload_n 0, 1) := by decide +kernel
theorem dX12_findFewest_83 : decode cX12_findFewest 83 = .ok (.getfield 435, 3) := by decide +kernel
theorem dX12_findFewest_86 : decode cX12_findFewest 86 = .ok (.if_icmp .ge 70, 3) := by decide +kernel
theorem dX12_findFewest_89 : decode cX12_findFewest 89 = .ok (.iconst 0, 1) := by decide +kernel
theorem dX12_findFewest_90 : decode cX12_findFewest 90 = .ok (.istore 4, 2) := by decide +kernel
theorem dX12_findFewest_92 : decode cX12_findFewest 92 = .ok (.iload 4, 2) := by decide +kernel
theorem dX12_findFewest_94 : decode cX12_findFewest 94 = .ok (.aload_n 0, 1) := by decide +kernel
theorem dX12_findFewest_95 : decode cX12_findFewest 95 = .ok (.getfield 435, 3) := by decide +kernel
theorem dX12_findFewest_98 : decode cX12_findFewest 98 = .ok (.if_icmp .ge 52, 3) := by decide +kernel
theorem dX12_findFewest_101 : decode cX12_findFewest 101 = .ok (.aload_n 0, 1) := by decide +kernel
theorem dX12_findFewest_102 : decode cX12_findFewest 102 = .ok (.getfield 182, 3) := by decide +kernel
theorem dX12_findFewest_105 : decode cX12_findFewest 105 = .ok (.bipush 12, 2) := by decide +kernel
theorem dX12_findFewest_107 : decode cX12_findFewest 107 = .ok (.iload_n 3, 1) := by decide +kernel
theorem dX12_findFewest_108 : decode cX12_findFewest 108 = .ok (.imul, 1) := by decide +kernel
theorem dX12_findFewest_109 : decode cX12_findFewest 109 = .ok (.iload 4, 2) := by decide +kernel
theorem dX12_findFewest_111 : decode cX12_findFewest 111 = .ok (.iadd, 1) := by decide +kernel
theorem dX12_findFewest_112 : decode cX12_findFewest 112 = .ok (.iload_n 3, 1) := by decide +kernel
theorem dX12_findFewest_113 : decode cX12_findFewest 113 = .ok (.iload 4, 2) := by decide +kernel
theorem dX12_findFewest_115 : decode cX12_findFewest 115 = .ok (.if_icmp .eq 27, 3) := by decide +kernel
theorem dX12_findFewest_118 : decode cX12_findFewest 118 = .ok (.aload_n 0, 1) := by decide +kernel
theorem dX12_findFewest_119 : decode cX12_findFewest 119 = .ok (.aload_n 0, 1) := by decide +kernel
theorem dX12_findFewest_120 : decode cX12_findFewest 120 = .ok (.getfield 179, 3) := by decide +kernel
theorem dX12_findFewest_123 : decode cX12_findFewest 123 = .ok (.iload_n 3, 1) := by decide +kernel
theorem dX12_findFewest_124 : decode cX12_findFewest 124 = .ok (.iaload, 1) := by decide +kernel
theorem dX12_findFewest_125 : decode cX12_findFewest 125 = .ok (.aload_n 0, 1) := by decide +kernel
theorem dX12_findFewest_126 : decode cX12_findFewest 126 = .ok (.getfield 179, 3) := by decide +kernel
theorem dX12_findFewest_129 : decode cX12_findFewest 129 = .ok (.iload 4, 2) := by decide +kernel
theorem dX12_findFewest_131 : decode cX12_findFewest 131 = .ok (.iaload, 1) := by decide +kernel
theorem dX12_findFewest_132 : decode cX12_findFewest 132 = .ok (.invokevirtual 438, 3) := by decide +kernel
theorem dX12_findFewest_135 : decode cX12_findFewest 135 = .ok (.ifCond .ne 7, 3) := by decide +kernel
theorem dX12_findFewest_138 : decode cX12_findFewest 138 = .ok (.iconst 1, 1) := by decide +kernel
theorem dX12_findFewest_139 : decode cX12_findFewest 139 = .ok (.goto 4, 3) := by decide +kernel
theorem dX12_findFewest_142 : decode cX12_findFewest 142 = .ok (.iconst 0, 1) := by decide +kernel
theorem dX12_findFewest_143 : decode cX12_findFewest 143 = .ok (.bastore, 1) := by decide +kernel
theorem dX12_findFewest_144 : decode cX12_findFewest 144 = .ok (.iinc 4 1, 3) := by decide +kernel
theorem dX12_findFewest_147 : decode cX12_findFewest 147 = .ok (.goto (-55), 3) := by decide +kernel
theorem dX12_findFewest_150 : decode cX12_findFewest 150 = .ok (.iinc 3 1, 3) := by decide +kernel
theorem dX12_findFewest_153 : decode cX12_findFewest 153 = .ok (.goto (-72), 3) := by decide +kernel
theorem dX12_findFewest_156 : decode cX12_findFewest 156 = .ok (.aload_n 0, 1) := by decide +kernel
theorem dX12_findFewest_157 : decode cX12_findFewest 157 = .ok (.aload_n 0, 1) := by decide +kernel
theorem dX12_findFewest_158 : decode cX12_findFewest 158 = .ok (.getfield 435, 3) := by decide +kernel
theorem dX12_findFewest_161 : decode cX12_findFewest 161 = .ok (.iconst 1, 1) := by decide +kernel
theorem dX12_findFewest_162 : decode cX12_findFewest 162 = .ok (.iadd, 1) := by decide +kernel
theorem dX12_findFewest_163 : decode cX12_findFewest 163 = .ok (.putfield 428, 3) := by decide +kernel
theorem dX12_findFewest_166 : decode cX12_findFewest 166 = .ok (.iconst 0, 1) := by decide +kernel
theorem dX12_findFewest_167 : decode cX12_findFewest 167 = .ok (.istore_n 3, 1) := by decide +kernel
theorem dX12_findFewest_168 : decode cX12_findFewest 168 = .ok (.iconst 0, 1) := by decide +kernel
theorem dX12_findFewest_169 : decode cX12_findFewest 169 = .ok (.istore 4, 2) := by decide +kernel
theorem dX12_findFewest_171 : decode cX12_findFewest 171 = .ok (.aload_n 0, 1) := by decide +kernel
theorem dX12_findFewest_172 : decode cX12_findFewest 172 = .ok (.iconst 0, 1) := by decide +kernel
theorem dX12_findFewest_173 : decode cX12_findFewest 173 = .ok (.putfield 441, 3) := by decide +kernel
theorem dX12_findFewest_176 : decode cX12_findFewest 176 = .ok (.iconst 0, 1) := by decide +kernel
theorem dX12_findFewest_177 : decode cX12_findFewest 177 = .ok (.istore 5, 2) := by decide +kernel
theorem dX12_findFewest_179 : decode cX12_findFewest 179 = .ok (.iload 5, 2) := by decide +kernel
theorem dX12_findFewest_181 : decode cX12_findFewest 181 = .ok (.iconst 1, 1) := by decide +kernel
theorem dX12_findFewest_182 : decode cX12_findFewest 182 = .ok (.aload_n 0, 1) := by decide +kernel
theorem dX12_findFewest_183 : decode cX12_findFewest 183 = .ok (.getfield 435, 3) := by decide +kernel
theorem dX12_findFewest_186 : decode cX12_findFewest 186 = .ok (.ishl, 1) := by decide +kernel
theorem dX12_findFewest_187 : decode cX12_findFewest 187 = .ok (.if_icmp .ge 114, 3) := by decide +kernel
theorem dX12_findFewest_190 : decode cX12_findFewest 190 = .ok (.iload 5, 2) := by decide +kernel
theorem dX12_findFewest_192 : decode cX12_findFewest 192 = .ok (.invokestatic 391, 3) := by decide +kernel
theorem dX12_findFewest_195 : decode cX12_findFewest 195 = .ok (.istore 6, 2) := by decide +kernel
theorem dX12_findFewest_197 : decode cX12_findFewest 197 = .ok (.iload 6, 2) := by decide +kernel
theorem dX12_findFewest_199 : decode cX12_findFewest 199 = .ok (.aload_n 0, 1) := by decide +kernel
theorem dX12_findFewest_200 : decode cX12_findFewest 200 = .ok (.getfield 428, 3) := by decide +kernel
theorem dX12_findFewest_203 : decode cX12_findFewest 203 = .ok (.if_icmp .gt 92, 3) := by decide +kernel
theorem dX12_findFewest_206 : decode cX12_findFewest 206 = .ok (.aload_n 0, 1) := by decide +kernel
theorem dX12_findFewest_207 : decode cX12_findFewest 207 = .ok (.iload 5, 2) := by decide +kernel
theorem dX12_findFewest_209 : decode cX12_findFewest 209 = .ok (.invokevirtual 444, 3) := by decide +kernel
theorem dX12_findFewest_212 : decode cX12_findFewest 212 = .ok (.ifCond .eq 83, 3) := by decide +kernel
theorem dX12_findFewest_215 : decode cX12_findFewest 215 = .ok (.iload 6, 2) := by decide +kernel
theorem dX12_findFewest_217 : decode cX12_findFewest 217 = .ok (.aload_n 0, 1) := by decide +kernel
theorem dX12_findFewest_218 : decode cX12_findFewest 218 = .ok (.getfield 428, 3) := by decide +kernel
theorem dX12_findFewest_221 : decode cX12_findFewest 221 = .ok (.if_icmp .ge 8, 3) := by decide +kernel
theorem dX12_findFewest_224 : decode cX12_findFewest 224 = .ok (.iload 5, 2) := by decide +kernel
theorem dX12_findFewest_226 : decode cX12_findFewest 226 = .ok (.goto 7, 3) := by decide +kernel
theorem dX12_findFewest_229 : decode cX12_findFewest 229 = .ok (.iload_n 3, 1) := by decide +kernel
theorem dX12_findFewest_230 : decode cX12_findFewest 230 = .ok (.iload 5, 2) := by decide +kernel
theorem dX12_findFewest_232 : decode cX12_findFewest 232 = .ok (.iand, 1) := by decide +kernel
theorem dX12_findFewest_233 : decode cX12_findFewest 233 = .ok (.istore_n 3, 1) := by decide +kernel
theorem dX12_findFewest_234 : decode cX12_findFewest 234 = .ok (.iload 6, 2) := by decide +kernel
theorem dX12_findFewest_236 : decode cX12_findFewest 236 = .ok (.aload_n 0, 1) := by decide +kernel
theorem dX12_findFewest_237 : decode cX12_findFewest 237 = .ok (.getfield 428, 3) := by decide +kernel
theorem dX12_findFewest_240 : decode cX12_findFewest 240 = .ok (.if_icmp .ge 8, 3) := by decide +kernel
theorem dX12_findFewest_243 : decode cX12_findFewest 243 = .ok (.iload 5, 2) := by decide +kernel
theorem dX12_findFewest_245 : decode cX12_findFewest 245 = .ok (.goto 8, 3) := by decide +kernel
theorem dX12_findFewest_248 : decode cX12_findFewest 248 = .ok (.iload 4, 2) := by decide +kernel
theorem dX12_findFewest_250 : decode cX12_findFewest 250 = .ok (.iload 5, 2) := by decide +kernel
theorem dX12_findFewest_252 : decode cX12_findFewest 252 = .ok (.ior, 1) := by decide +kernel
theorem dX12_findFewest_253 : decode cX12_findFewest 253 = .ok (.istore 4, 2) := by decide +kernel
theorem dX12_findFewest_255 : decode cX12_findFewest 255 = .ok (.aload_n 0, 1) := by decide +kernel
theorem dX12_findFewest_256 : decode cX12_findFewest 256 = .ok (.iload 6, 2) := by decide +kernel
theorem dX12_findFewest_258 : decode cX12_findFewest 258 = .ok (.aload_n 0, 1) := by decide +kernel
theorem dX12_findFewest_259 : decode cX12_findFewest 259 = .ok (.getfield 428, 3) := by decide +kernel
theorem dX12_findFewest_262 : decode cX12_findFewest 262 = .ok (.if_icmp .lt 15, 3) := by decide +kernel
theorem dX12_findFewest_265 : decode cX12_findFewest 265 = .ok (.iload 5, 2) := by decide +kernel
theorem dX12_findFewest_267 : decode cX12_findFewest 267 = .ok (.aload_n 0, 1) := by decide +kernel
theorem dX12_findFewest_268 : decode cX12_findFewest 268 = .ok (.getfield 441, 3) := by decide +kernel
theorem dX12_findFewest_271 : decode cX12_findFewest 271 = .ok (.invokestatic 447, 3) := by decide +kernel
theorem dX12_findFewest_274 : decode cX12_findFewest 274 = .ok (.ifCond .eq 8, 3) := by decide +kernel
theorem dX12_findFewest_277 : decode cX12_findFewest 277 = .ok (.iload 5, 2) := by decide +kernel
theorem dX12_findFewest_279 : decode cX12_findFewest 279 = .ok (.goto 7, 3) := by decide +kernel
theorem dX12_findFewest_282 : decode cX12_findFewest 282 = .ok (.aload_n 0, 1) := by decide +kernel
theorem dX12_findFewest_283 : decode cX12_findFewest 283 = .ok (.getfield 441, 3) := by decide +kernel
theorem dX12_findFewest_286 : decode cX12_findFewest 286 = .ok (.putfield 441, 3) := by decide +kernel
theorem dX12_findFewest_289 : decode cX12_findFewest 289 = .ok (.aload_n 0, 1) := by decide +kernel
theorem dX12_findFewest_290 : decode cX12_findFewest 290 = .ok (.iload 6, 2) := by decide +kernel
theorem dX12_findFewest_292 : decode cX12_findFewest 292 = .ok (.putfield 428, 3) := by decide +kernel
theorem dX12_findFewest_295 : decode cX12_findFewest 295 = .ok (.iinc 5 1, 3) := by decide +kernel
theorem dX12_findFewest_298 : decode cX12_findFewest 298 = .ok (.goto (-119), 3) := by decide +kernel
theorem dX12_findFewest_301 : decode cX12_findFewest 301 = .ok (.iconst 0, 1) := by decide +kernel
theorem dX12_findFewest_302 : decode cX12_findFewest 302 = .ok (.istore 5, 2) := by decide +kernel
theorem dX12_findFewest_304 : decode cX12_findFewest 304 = .ok (.iload 5, 2) := by decide +kernel
theorem dX12_findFewest_306 : decode cX12_findFewest 306 = .ok (.aload_n 0, 1) := by decide +kernel
theorem dX12_findFewest_307 : decode cX12_findFewest 307 = .ok (.getfield 435, 3) := by decide +kernel
theorem dX12_findFewest_310 : decode cX12_findFewest 310 = .ok (.if_icmp .ge 51, 3) := by decide +kernel
theorem dX12_findFewest_313 : decode cX12_findFewest 313 = .ok (.aload_n 0, 1) := by decide +kernel
theorem dX12_findFewest_314 : decode cX12_findFewest 314 = .ok (.getfield 176, 3) := by decide +kernel
theorem dX12_findFewest_317 : decode cX12_findFewest 317 = .ok (.aload_n 0, 1) := by decide +kernel
theorem dX12_findFewest_318 : decode cX12_findFewest 318 = .ok (.getfield 179, 3) := by decide +kernel
theorem dX12_findFewest_321 : decode cX12_findFewest 321 = .ok (.iload 5, 2) := by decide +kernel
theorem dX12_findFewest_323 : decode cX12_findFewest 323 = .ok (.iaload, 1) := by decide +kernel
theorem dX12_findFewest_324 : decode cX12_findFewest 324 = .ok (.iload_n 3, 1) := by decide +kernel
theorem dX12_findFewest_325 : decode cX12_findFewest 325 = .ok (.iload 5, 2) := by decide +kernel
theorem dX12_findFewest_327 : decode cX12_findFewest 327 = .ok (.ishr, 1) := by decide +kernel
theorem dX12_findFewest_328 : decode cX12_findFewest 328 = .ok (.iconst 1, 1) := by decide +kernel
theorem dX12_findFewest_329 : decode cX12_findFewest 329 = .ok (.iand, 1) := by decide +kernel
theorem dX12_findFewest_330 : decode cX12_findFewest 330 = .ok (.iconst 1, 1) := by decide +kernel
theorem dX12_findFewest_331 : decode cX12_findFewest 331 = .ok (.if_icmp .ne 7, 3) := by decide +kernel
theorem dX12_findFewest_334 : decode cX12_findFewest 334 = .ok (.iconst 2, 1) := by decide +kernel
theorem dX12_findFewest_335 : decode cX12_findFewest 335 = .ok (.goto 19, 3) := by decide +kernel
theorem dX12_findFewest_338 : decode cX12_findFewest 338 = .ok (.iload 4, 2) := by decide +kernel
theorem dX12_findFewest_340 : decode cX12_findFewest 340 = .ok (.iload 5, 2) := by decide +kernel
theorem dX12_findFewest_342 : decode cX12_findFewest 342 = .ok (.ishr, 1) := by decide +kernel
theorem dX12_findFewest_343 : decode cX12_findFewest 343 = .ok (.iconst 1, 1) := by decide +kernel
theorem dX12_findFewest_344 : decode cX12_findFewest 344 = .ok (.iand, 1) := by decide +kernel
theorem dX12_findFewest_345 : decode cX12_findFewest 345 = .ok (.iconst 1, 1) := by decide +kernel
theorem dX12_findFewest_346 : decode cX12_findFewest 346 = .ok (.if_icmp .ne 7, 3) := by decide +kernel
theorem dX12_findFewest_349 : decode cX12_findFewest 349 = .ok (.iconst 3, 1) := by decide +kernel
theorem dX12_findFewest_350 : decode cX12_findFewest 350 = .ok (.goto 4, 3) := by decide +kernel
theorem dX12_findFewest_353 : decode cX12_findFewest 353 = .ok (.iconst 0, 1) := by decide +kernel
theorem dX12_findFewest_354 : decode cX12_findFewest 354 = .ok (.iastore, 1) := by decide +kernel
theorem dX12_findFewest_355 : decode cX12_findFewest 355 = .ok (.iinc 5 1, 3) := by decide +kernel
theorem dX12_findFewest_358 : decode cX12_findFewest 358 = .ok (.goto (-54), 3) := by decide +kernel
theorem dX12_findFewest_361 : decode cX12_findFewest 361 = .ok (.return_, 1) := by decide +kernel
theorem dX12_isFirst_0 : decode cX12_isFirst 0 = .ok (.iload_n 0, 1) := by decide +kernel
theorem dX12_isFirst_1 : decode cX12_isFirst 1 = .ok (.iload_n 1, 1) := by decide +kernel
theorem dX12_isFirst_2 : decode cX12_isFirst 2 = .ok (.ixor, 1) := by decide +kernel
theorem dX12_isFirst_3 : decode cX12_isFirst 3 = .ok (.istore_n 2, 1) := by decide +kernel
theorem dX12_isFirst_4 : decode cX12_isFirst 4 = .ok (.iload_n 0, 1) := by decide +kernel
theorem dX12_isFirst_5 : decode cX12_isFirst 5 = .ok (.iload_n 2, 1) := by decide +kernel
theorem dX12_isFirst_6 : decode cX12_isFirst 6 = .ok (.iand, 1) := by decide +kernel
theorem dX12_isFirst_7 : decode cX12_isFirst 7 = .ok (.iload_n 2, 1) := by decide +kernel
theorem dX12_isFirst_8 : decode cX12_isFirst 8 = .ok (.ineg, 1) := by decide +kernel
theorem dX12_isFirst_9 : decode cX12_isFirst 9 = .ok (.iand, 1) := by decide +kernel
theorem dX12_isFirst_10 : decode cX12_isFirst 10 = .ok (.ifCond .eq 7, 3) := by decide +kernel
theorem dX12_isFirst_13 : decode cX12_isFirst 13 = .ok (.iconst 1, 1) := by decide +kernel
theorem dX12_isFirst_14 : decode cX12_isFirst 14 = .ok (.goto 4, 3) := by decide +kernel
theorem dX12_isFirst_17 : decode cX12_isFirst 17 = .ok (.iconst 0, 1) := by decide +kernel
theorem dX12_isFirst_18 : decode cX12_isFirst 18 = .ok (.ireturn, 1) := by decide +kernel
theorem dX12_doesDo_0 : decode cX12_doesDo 0 = .ok (.iconst 0, 1) := by decide +kernel
theorem dX12_doesDo_1 : decode cX12_doesDo 1 = .ok (.istore_n 2, 1) := by decide +kernel
theorem dX12_doesDo_2 : decode cX12_doesDo 2 = .ok (.iload_n 2, 1) := by decide +kernel
theorem dX12_doesDo_3 : decode cX12_doesDo 3 = .ok (.aload_n 0, 1) := by decide +kernel
theorem dX12_doesDo_4 : decode cX12_doesDo 4 = .ok (.getfield 435, 3) := by decide +kernel
theorem dX12_doesDo_7 : decode cX12_doesDo 7 = .ok (.if_icmp .ge 54, 3) := by decide +kernel
theorem dX12_doesDo_10 : decode cX12_doesDo 10 = .ok (.iconst 0, 1) := by decide +kernel
theorem dX12_doesDo_11 : decode cX12_doesDo 11 = .ok (.istore_n 3, 1) := by decide +kernel
theorem dX12_doesDo_12 : decode cX12_doesDo 12 = .ok (.iload_n 3, 1) := by decide +kernel
theorem dX12_doesDo_13 : decode cX12_doesDo 13 = .ok (.iload_n 2, 1) := by decide +kernel
theorem dX12_doesDo_14 : decode cX12_doesDo 14 = .ok (.if_icmp .ge 41, 3) := by decide +kernel
theorem dX12_doesDo_17 : decode cX12_doesDo 17 = .ok (.aload_n 0, 1) := by decide +kernel
theorem dX12_doesDo_18 : decode cX12_doesDo 18 = .ok (.getfield 182, 3) := by decide +kernel
theorem dX12_doesDo_21 : decode cX12_doesDo 21 = .ok (.bipush 12, 2) := by decide +kernel
theorem dX12_doesDo_23 : decode cX12_doesDo 23 = .ok (.iload_n 2, 1) := by decide +kernel
theorem dX12_doesDo_24 : decode cX12_doesDo 24 = .ok (.imul, 1) := by decide +kernel
theorem dX12_doesDo_25 : decode cX12_doesDo 25 = .ok (.iload_n 3, 1) := by decide +kernel
theorem dX12_doesDo_26 : decode cX12_doesDo 26 = .ok (.iadd, 1) := by decide +kernel
theorem dX12_doesDo_27 : decode cX12_doesDo 27 = .ok (.baload, 1) := by decide +kernel
theorem dX12_doesDo_28 : decode cX12_doesDo 28 = .ok (.ifCond .eq 21, 3) := by decide +kernel
theorem dX12_doesDo_31 : decode cX12_doesDo 31 = .ok (.iload_n 1, 1) := by decide +kernel
theorem dX12_doesDo_32 : decode cX12_doesDo 32 = .ok (.iload_n 2, 1) := by decide +kernel
theorem dX12_doesDo_33 : decode cX12_doesDo 33 = .ok (.ishr, 1) := by decide +kernel
theorem dX12_doesDo_34 : decode cX12_doesDo 34 = .ok (.iconst 1, 1) := by decide +kernel
theorem dX12_doesDo_35 : decode cX12_doesDo 35 = .ok (.iand, 1) := by decide +kernel
theorem dX12_doesDo_36 : decode cX12_doesDo 36 = .ok (.ifCond .ne 13, 3) := by decide +kernel
theorem dX12_doesDo_39 : decode cX12_doesDo 39 = .ok (.iload_n 1, 1) := by decide +kernel
theorem dX12_doesDo_40 : decode cX12_doesDo 40 = .ok (.iload_n 3, 1) := by decide +kernel
theorem dX12_doesDo_41 : decode cX12_doesDo 41 = .ok (.ishr, 1) := by decide +kernel
theorem dX12_doesDo_42 : decode cX12_doesDo 42 = .ok (.iconst 1, 1) := by decide +kernel
theorem dX12_doesDo_43 : decode cX12_doesDo 43 = .ok (.iand, 1) := by decide +kernel
theorem dX12_doesDo_44 : decode cX12_doesDo 44 = .ok (.ifCond .ne 5, 3) := by decide +kernel
theorem dX12_doesDo_47 : decode cX12_doesDo 47 = .ok (.iconst 0, 1) := by decide +kernel
theorem dX12_doesDo_48 : decode cX12_doesDo 48 = .ok (.ireturn, 1) := by decide +kernel
theorem dX12_doesDo_49 : decode cX12_doesDo 49 = .ok (.iinc 3 1, 3) := by decide +kernel
theorem dX12_doesDo_52 : decode cX12_doesDo 52 = .ok (.goto (-40), 3) := by decide +kernel
theorem dX12_doesDo_55 : decode cX12_doesDo 55 = .ok (.iinc 2 1, 3) := by decide +kernel
theorem dX12_doesDo_58 : decode cX12_doesDo 58 = .ok (.goto (-56), 3) := by decide +kernel
theorem dX12_doesDo_61 : decode cX12_doesDo 61 = .ok (.iconst 1, 1) := by decide +kernel
theorem dX12_doesDo_62 : decode cX12_doesDo 62 = .ok (.ireturn, 1) := by decide +kernel
theorem dX12_counts_0 : decode cX12_counts 0 = .ok (.aload_n 0, 1) := by decide +kernel
theorem dX12_counts_1 : decode cX12_counts 1 = .ok (.iload_n 1, 1) := by decide +kernel
theorem dX12_counts_2 : decode cX12_counts 2 = .ok (.invokevirtual 394, 3) := by decide +kernel
theorem dX12_counts_5 : decode cX12_counts 5 = .ok (.ifCond .eq 26, 3) := by decide +kernel
theorem dX12_counts_8 : decode cX12_counts 8 = .ok (.aload_n 0, 1) := by decide +kernel
theorem dX12_counts_9 : decode cX12_counts 9 = .ok (.getfield 176, 3) := by decide +kernel
theorem dX12_counts_12 : decode cX12_counts 12 = .ok (.iload_n 1, 1) := by decide +kernel
theorem dX12_counts_13 : decode cX12_counts 13 = .ok (.iaload, 1) := by decide +kernel
theorem dX12_counts_14 : decode cX12_counts 14 = .ok (.ifCond .eq 13, 3) := by decide +kernel
theorem dX12_counts_17 : decode cX12_counts 17 = .ok (.aload_n 0, 1) := by decide +kernel
theorem dX12_counts_18 : decode cX12_counts 18 = .ok (.getfield 176, 3) := by decide +kernel
theorem dX12_counts_21 : decode cX12_counts 21 = .ok (.iload_n 1, 1) := by decide +kernel
theorem dX12_counts_22 : decode cX12_counts 22 = .ok (.iaload, 1) := by decide +kernel
theorem dX12_counts_23 : decode cX12_counts 23 = .ok (.iconst 3, 1) := by decide +kernel
theorem dX12_counts_24 : decode cX12_counts 24 = .ok (.if_icmp .ne 7, 3) := by decide +kernel
theorem dX12_counts_27 : decode cX12_counts 27 = .ok (.iconst 1, 1) := by decide +kernel
theorem dX12_counts_28 : decode cX12_counts 28 = .ok (.goto 4, 3) := by decide +kernel
theorem dX12_counts_31 : decode cX12_counts 31 = .ok (.iconst 0, 1) := by decide +kernel
theorem dX12_counts_32 : decode cX12_counts 32 = .ok (.ireturn, 1) := by decide +kernel
theorem dX12_look_0 : decode cX12_look 0 = .ok (.aload_n 0, 1) := by decide +kernel
theorem dX12_look_1 : decode cX12_look 1 = .ok (.aload_n 0, 1) := by decide +kernel
theorem dX12_look_2 : decode cX12_look 2 = .ok (.iload_n 1, 1) := by decide +kernel
theorem dX12_look_3 : decode cX12_look 3 = .ok (.invokevirtual 394, 3) := by decide +kernel
theorem dX12_look_6 : decode cX12_look 6 = .ok (.ifCond .eq 16, 3) := by decide +kernel
theorem dX12_look_9 : decode cX12_look 9 = .ok (.iload_n 2, 1) := by decide +kernel
theorem dX12_look_10 : decode cX12_look 10 = .ok (.iconst 0, 1) := by decide +kernel
theorem dX12_look_11 : decode cX12_look 11 = .ok (.iconst 5, 1) := by decide +kernel
theorem dX12_look_12 : decode cX12_look 12 = .ok (.invokestatic 358, 3) := by decide +kernel
theorem dX12_look_15 : decode cX12_look 15 = .ok (.ifCond .eq 7, 3) := by decide +kernel
theorem dX12_look_18 : decode cX12_look 18 = .ok (.iconst 0, 1) := by decide +kernel
theorem dX12_look_19 : decode cX12_look 19 = .ok (.goto 4, 3) := by decide +kernel
theorem dX12_look_22 : decode cX12_look 22 = .ok (.iconst 1, 1) := by decide +kernel
theorem dX12_look_23 : decode cX12_look 23 = .ok (.putfield 1, 3) := by decide +kernel
theorem dX12_look_26 : decode cX12_look 26 = .ok (.aload_n 0, 1) := by decide +kernel
theorem dX12_look_27 : decode cX12_look 27 = .ok (.getfield 1, 3) := by decide +kernel
theorem dX12_look_30 : decode cX12_look 30 = .ok (.ifCond .le 5, 3) := by decide +kernel
theorem dX12_look_33 : decode cX12_look 33 = .ok (.iconst 0, 1) := by decide +kernel
theorem dX12_look_34 : decode cX12_look 34 = .ok (.ireturn, 1) := by decide +kernel
theorem dX12_look_35 : decode cX12_look 35 = .ok (.aload_n 0, 1) := by decide +kernel
theorem dX12_look_36 : decode cX12_look 36 = .ok (.invokevirtual 450, 3) := by decide +kernel
theorem dX12_look_39 : decode cX12_look 39 = .ok (.iload_n 2, 1) := by decide +kernel
theorem dX12_look_40 : decode cX12_look 40 = .ok (.tableswitch 77 0 4 #[36, 43, 50, 56, 63], 36) := by decide +kernel
theorem dX12_look_76 : decode cX12_look 76 = .ok (.aload_n 0, 1) := by decide +kernel
theorem dX12_look_77 : decode cX12_look 77 = .ok (.getfield 170, 3) := by decide +kernel
theorem dX12_look_80 : decode cX12_look 80 = .ok (.iload_n 1, 1) := by decide +kernel
theorem dX12_look_81 : decode cX12_look 81 = .ok (.iaload, 1) := by decide +kernel
theorem dX12_look_82 : decode cX12_look 82 = .ok (.ireturn, 1) := by decide +kernel
theorem dX12_look_83 : decode cX12_look 83 = .ok (.aload_n 0, 1) := by decide +kernel
theorem dX12_look_84 : decode cX12_look 84 = .ok (.getfield 173, 3) := by decide +kernel
theorem dX12_look_87 : decode cX12_look 87 = .ok (.iload_n 1, 1) := by decide +kernel
theorem dX12_look_88 : decode cX12_look 88 = .ok (.iaload, 1) := by decide +kernel
theorem dX12_look_89 : decode cX12_look 89 = .ok (.ireturn, 1) := by decide +kernel
theorem dX12_look_90 : decode cX12_look 90 = .ok (.aload_n 0, 1) := by decide +kernel
theorem dX12_look_91 : decode cX12_look 91 = .ok (.iload_n 1, 1) := by decide +kernel
theorem dX12_look_92 : decode cX12_look 92 = .ok (.invokevirtual 406, 3) := by decide +kernel
theorem dX12_look_95 : decode cX12_look 95 = .ok (.ireturn, 1) := by decide +kernel
theorem dX12_look_96 : decode cX12_look 96 = .ok (.aload_n 0, 1) := by decide +kernel
theorem dX12_look_97 : decode cX12_look 97 = .ok (.getfield 176, 3) := by decide +kernel
theorem dX12_look_100 : decode cX12_look 100 = .ok (.iload_n 1, 1) := by decide +kernel
theorem dX12_look_101 : decode cX12_look 101 = .ok (.iaload, 1) := by decide +kernel
theorem dX12_look_102 : decode cX12_look 102 = .ok (.ireturn, 1) := by decide +kernel
theorem dX12_look_103 : decode cX12_look 103 = .ok (.aload_n 0, 1) := by decide +kernel
theorem dX12_look_104 : decode cX12_look 104 = .ok (.iload_n 1, 1) := by decide +kernel
theorem dX12_look_105 : decode cX12_look 105 = .ok (.invokevirtual 453, 3) := by decide +kernel
theorem dX12_look_108 : decode cX12_look 108 = .ok (.ifCond .eq 7, 3) := by decide +kernel
theorem dX12_look_111 : decode cX12_look 111 = .ok (.iconst 1, 1) := by decide +kernel
theorem dX12_look_112 : decode cX12_look 112 = .ok (.goto 4, 3) := by decide +kernel
theorem dX12_look_115 : decode cX12_look 115 = .ok (.iconst 0, 1) := by decide +kernel
theorem dX12_look_116 : decode cX12_look 116 = .ok (.ireturn, 1) := by decide +kernel
theorem dX12_look_117 : decode cX12_look 117 = .ok (.aload_n 0, 1) := by decide +kernel
theorem dX12_look_118 : decode cX12_look 118 = .ok (.iload_n 1, 1) := by decide +kernel
theorem dX12_look_119 : decode cX12_look 119 = .ok (.invokevirtual 413, 3) := by decide +kernel
theorem dX12_look_122 : decode cX12_look 122 = .ok (.ireturn, 1) := by decide +kernel
theorem dX12_fewest_0 : decode cX12_fewest 0 = .ok (.aload_n 0, 1) := by decide +kernel
theorem dX12_fewest_1 : decode cX12_fewest 1 = .ok (.iconst 0, 1) := by decide +kernel
theorem dX12_fewest_2 : decode cX12_fewest 2 = .ok (.putfield 1, 3) := by decide +kernel
theorem dX12_fewest_5 : decode cX12_fewest 5 = .ok (.aload_n 0, 1) := by decide +kernel
theorem dX12_fewest_6 : decode cX12_fewest 6 = .ok (.iload_n 1, 1) := by decide +kernel
theorem dX12_fewest_7 : decode cX12_fewest 7 = .ok (.invokevirtual 378, 3) := by decide +kernel
theorem dX12_fewest_10 : decode cX12_fewest 10 = .ok (.ifCond .eq 10, 3) := by decide +kernel
theorem dX12_fewest_13 : decode cX12_fewest 13 = .ok (.iload_n 2, 1) := by decide +kernel
theorem dX12_fewest_14 : decode cX12_fewest 14 = .ok (.invokestatic 456, 3) := by decide +kernel
theorem dX12_fewest_17 : decode cX12_fewest 17 = .ok (.ifCond .ne 5, 3) := by decide +kernel
theorem dX12_fewest_20 : decode cX12_fewest 20 = .ok (.iconst (-1), 1) := by decide +kernel
theorem dX12_fewest_21 : decode cX12_fewest 21 = .ok (.ireturn, 1) := by decide +kernel
theorem dX12_fewest_22 : decode cX12_fewest 22 = .ok (.aload_n 0, 1) := by decide +kernel
theorem dX12_fewest_23 : decode cX12_fewest 23 = .ok (.invokevirtual 450, 3) := by decide +kernel
theorem dX12_fewest_26 : decode cX12_fewest 26 = .ok (.aload_n 0, 1) := by decide +kernel
theorem dX12_fewest_27 : decode cX12_fewest 27 = .ok (.iload_n 1, 1) := by decide +kernel
theorem dX12_fewest_28 : decode cX12_fewest 28 = .ok (.iload_n 2, 1) := by decide +kernel
theorem dX12_fewest_29 : decode cX12_fewest 29 = .ok (.invokevirtual 425, 3) := by decide +kernel
theorem dX12_fewest_32 : decode cX12_fewest 32 = .ok (.aload_n 0, 1) := by decide +kernel
theorem dX12_fewest_33 : decode cX12_fewest 33 = .ok (.getfield 428, 3) := by decide +kernel
theorem dX12_fewest_36 : decode cX12_fewest 36 = .ok (.ireturn, 1) := by decide +kernel
theorem dX12_set_0 : decode cX12_set 0 = .ok (.aload_n 0, 1) := by decide +kernel
theorem dX12_set_1 : decode cX12_set 1 = .ok (.iconst 0, 1) := by decide +kernel
theorem dX12_set_2 : decode cX12_set 2 = .ok (.putfield 1, 3) := by decide +kernel
theorem dX12_set_5 : decode cX12_set 5 = .ok (.aload_n 0, 1) := by decide +kernel
theorem dX12_set_6 : decode cX12_set 6 = .ok (.iload_n 1, 1) := by decide +kernel
theorem dX12_set_7 : decode cX12_set 7 = .ok (.invokevirtual 378, 3) := by decide +kernel
theorem dX12_set_10 : decode cX12_set 10 = .ok (.ifCond .eq 14, 3) := by decide +kernel
theorem dX12_set_13 : decode cX12_set 13 = .ok (.iload_n 2, 1) := by decide +kernel
theorem dX12_set_14 : decode cX12_set 14 = .ok (.invokestatic 456, 3) := by decide +kernel
theorem dX12_set_17 : decode cX12_set 17 = .ok (.ifCond .eq 7, 3) := by decide +kernel
theorem dX12_set_20 : decode cX12_set 20 = .ok (.iload_n 3, 1) := by decide +kernel
theorem dX12_set_21 : decode cX12_set 21 = .ok (.ifCond .ge 5, 3) := by decide +kernel
theorem dX12_set_24 : decode cX12_set 24 = .ok (.iconst (-1), 1) := by decide +kernel
theorem dX12_set_25 : decode cX12_set 25 = .ok (.ireturn, 1) := by decide +kernel
theorem dX12_set_26 : decode cX12_set 26 = .ok (.aload_n 0, 1) := by decide +kernel
theorem dX12_set_27 : decode cX12_set 27 = .ok (.invokevirtual 450, 3) := by decide +kernel
theorem dX12_set_30 : decode cX12_set 30 = .ok (.aload_n 0, 1) := by decide +kernel
theorem dX12_set_31 : decode cX12_set 31 = .ok (.iload_n 1, 1) := by decide +kernel
theorem dX12_set_32 : decode cX12_set 32 = .ok (.iload_n 2, 1) := by decide +kernel
theorem dX12_set_33 : decode cX12_set 33 = .ok (.invokevirtual 425, 3) := by decide +kernel
theorem dX12_set_36 : decode cX12_set 36 = .ok (.iload_n 3, 1) := by decide +kernel
theorem dX12_set_37 : decode cX12_set 37 = .ok (.istore 4, 2) := by decide +kernel
theorem dX12_set_39 : decode cX12_set 39 = .ok (.iconst 0, 1) := by decide +kernel
theorem dX12_set_40 : decode cX12_set 40 = .ok (.istore 5, 2) := by decide +kernel
theorem dX12_set_42 : decode cX12_set 42 = .ok (.iload 5, 2) := by decide +kernel
theorem dX12_set_44 : decode cX12_set 44 = .ok (.aload_n 0, 1) := by decide +kernel
theorem dX12_set_45 : decode cX12_set 45 = .ok (.getfield 435, 3) := by decide +kernel
theorem dX12_set_48 : decode cX12_set 48 = .ok (.if_icmp .ge 38, 3) := by decide +kernel
theorem dX12_set_51 : decode cX12_set 51 = .ok (.aload_n 0, 1) := by decide +kernel
theorem dX12_set_52 : decode cX12_set 52 = .ok (.getfield 441, 3) := by decide +kernel
theorem dX12_set_55 : decode cX12_set 55 = .ok (.iload 5, 2) := by decide +kernel
theorem dX12_set_57 : decode cX12_set 57 = .ok (.ishr, 1) := by decide +kernel
theorem dX12_set_58 : decode cX12_set 58 = .ok (.iconst 1, 1) := by decide +kernel
theorem dX12_set_59 : decode cX12_set 59 = .ok (.iand, 1) := by decide +kernel
theorem dX12_set_60 : decode cX12_set 60 = .ok (.iconst 1, 1) := by decide +kernel
theorem dX12_set_61 : decode cX12_set 61 = .ok (.if_icmp .ne 19, 3) := by decide +kernel
theorem dX12_set_64 : decode cX12_set 64 = .ok (.iload 4, 2) := by decide +kernel
theorem dX12_set_66 : decode cX12_set 66 = .ok (.ifCond .ne 11, 3) := by decide +kernel
theorem dX12_set_69 : decode cX12_set 69 = .ok (.aload_n 0, 1) := by decide +kernel
theorem dX12_set_70 : decode cX12_set 70 = .ok (.getfield 179, 3) := by decide +kernel
theorem dX12_set_73 : decode cX12_set 73 = .ok (.iload 5, 2) := by decide +kernel
theorem dX12_set_75 : decode cX12_set 75 = .ok (.iaload, 1) := by decide +kernel
theorem dX12_set_76 : decode cX12_set 76 = .ok (.ireturn, 1) := by decide +kernel
theorem dX12_set_77 : decode cX12_set 77 = .ok (.iinc 4 (-1), 3) := by decide +kernel
theorem dX12_set_80 : decode cX12_set 80 = .ok (.iinc 5 1, 3) := by decide +kernel
theorem dX12_set_83 : decode cX12_set 83 = .ok (.goto (-41), 3) := by decide +kernel
theorem dX12_set_86 : decode cX12_set 86 = .ok (.iconst (-1), 1) := by decide +kernel
theorem dX12_set_87 : decode cX12_set 87 = .ok (.ireturn, 1) := by decide +kernel
theorem dX12_isMeeting_0 : decode cX12_isMeeting 0 = .ok (.aload_n 0, 1) := by decide +kernel
theorem dX12_isMeeting_1 : decode cX12_isMeeting 1 = .ok (.iload_n 1, 1) := by decide +kernel
theorem dX12_isMeeting_2 : decode cX12_isMeeting 2 = .ok (.invokevirtual 453, 3) := by decide +kernel
theorem dX12_isMeeting_5 : decode cX12_isMeeting 5 = .ok (.ifCond .eq 66, 3) := by decide +kernel
theorem dX12_isMeeting_8 : decode cX12_isMeeting 8 = .ok (.aload_n 0, 1) := by decide +kernel
theorem dX12_isMeeting_9 : decode cX12_isMeeting 9 = .ok (.iload_n 2, 1) := by decide +kernel
theorem dX12_isMeeting_10 : decode cX12_isMeeting 10 = .ok (.invokevirtual 453, 3) := by decide +kernel
theorem dX12_isMeeting_13 : decode cX12_isMeeting 13 = .ok (.ifCond .eq 58, 3) := by decide +kernel
theorem dX12_isMeeting_16 : decode cX12_isMeeting 16 = .ok (.aload_n 0, 1) := by decide +kernel
theorem dX12_isMeeting_17 : decode cX12_isMeeting 17 = .ok (.getfield 134, 3) := by decide +kernel
theorem dX12_isMeeting_20 : decode cX12_isMeeting 20 = .ok (.iload_n 1, 1) := by decide +kernel
theorem dX12_isMeeting_21 : decode cX12_isMeeting 21 = .ok (.iaload, 1) := by decide +kernel
theorem dX12_isMeeting_22 : decode cX12_isMeeting 22 = .ok (.aload_n 0, 1) := by decide +kernel
theorem dX12_isMeeting_23 : decode cX12_isMeeting 23 = .ok (.getfield 134, 3) := by decide +kernel
theorem dX12_isMeeting_26 : decode cX12_isMeeting 26 = .ok (.iload_n 2, 1) := by decide +kernel
theorem dX12_isMeeting_27 : decode cX12_isMeeting 27 = .ok (.iaload, 1) := by decide +kernel
theorem dX12_isMeeting_28 : decode cX12_isMeeting 28 = .ok (.if_icmp .ne 43, 3) := by decide +kernel
theorem dX12_isMeeting_31 : decode cX12_isMeeting 31 = .ok (.aload_n 0, 1) := by decide +kernel
theorem dX12_isMeeting_32 : decode cX12_isMeeting 32 = .ok (.getfield 140, 3) := by decide +kernel
theorem dX12_isMeeting_35 : decode cX12_isMeeting 35 = .ok (.iload_n 1, 1) := by decide +kernel
theorem dX12_isMeeting_36 : decode cX12_isMeeting 36 = .ok (.iaload, 1) := by decide +kernel
theorem dX12_isMeeting_37 : decode cX12_isMeeting 37 = .ok (.bipush 7, 2) := by decide +kernel
theorem dX12_isMeeting_39 : decode cX12_isMeeting 39 = .ok (.idiv, 1) := by decide +kernel
theorem dX12_isMeeting_40 : decode cX12_isMeeting 40 = .ok (.aload_n 0, 1) := by decide +kernel
theorem dX12_isMeeting_41 : decode cX12_isMeeting 41 = .ok (.getfield 140, 3) := by decide +kernel
theorem dX12_isMeeting_44 : decode cX12_isMeeting 44 = .ok (.iload_n 2, 1) := by decide +kernel
theorem dX12_isMeeting_45 : decode cX12_isMeeting 45 = .ok (.iaload, 1) := by decide +kernel
theorem dX12_isMeeting_46 : decode cX12_isMeeting 46 = .ok (.bipush 7, 2) := by decide +kernel
theorem dX12_isMeeting_48 : decode cX12_isMeeting 48 = .ok (.idiv, 1) := by decide +kernel
theorem dX12_isMeeting_49 : decode cX12_isMeeting 49 = .ok (.if_icmp .ne 22, 3) := by decide +kernel
theorem dX12_isMeeting_52 : decode cX12_isMeeting 52 = .ok (.aload_n 0, 1) := by decide +kernel
theorem dX12_isMeeting_53 : decode cX12_isMeeting 53 = .ok (.getfield 137, 3) := by decide +kernel
theorem dX12_isMeeting_56 : decode cX12_isMeeting 56 = .ok (.iload_n 1, 1) := by decide +kernel
theorem dX12_isMeeting_57 : decode cX12_isMeeting 57 = .ok (.iaload, 1) := by decide +kernel
theorem dX12_isMeeting_58 : decode cX12_isMeeting 58 = .ok (.aload_n 0, 1) := by decide +kernel
theorem dX12_isMeeting_59 : decode cX12_isMeeting 59 = .ok (.getfield 137, 3) := by decide +kernel
theorem dX12_isMeeting_62 : decode cX12_isMeeting 62 = .ok (.iload_n 2, 1) := by decide +kernel
theorem dX12_isMeeting_63 : decode cX12_isMeeting 63 = .ok (.iaload, 1) := by decide +kernel
theorem dX12_isMeeting_64 : decode cX12_isMeeting 64 = .ok (.if_icmp .eq 7, 3) := by decide +kernel
theorem dX12_isMeeting_67 : decode cX12_isMeeting 67 = .ok (.iconst 1, 1) := by decide +kernel
theorem dX12_isMeeting_68 : decode cX12_isMeeting 68 = .ok (.goto 4, 3) := by decide +kernel
theorem dX12_isMeeting_71 : decode cX12_isMeeting 71 = .ok (.iconst 0, 1) := by decide +kernel
theorem dX12_isMeeting_72 : decode cX12_isMeeting 72 = .ok (.ireturn, 1) := by decide +kernel
theorem dX12_findLeans_0 : decode cX12_findLeans 0 = .ok (.aload_n 0, 1) := by decide +kernel
theorem dX12_findLeans_1 : decode cX12_findLeans 1 = .ok (.invokevirtual 450, 3) := by decide +kernel
theorem dX12_findLeans_4 : decode cX12_findLeans 4 = .ok (.iconst 0, 1) := by decide +kernel
theorem dX12_findLeans_5 : decode cX12_findLeans 5 = .ok (.istore_n 1, 1) := by decide +kernel
theorem dX12_findLeans_6 : decode cX12_findLeans 6 = .ok (.iload_n 1, 1) := by decide +kernel
theorem dX12_findLeans_7 : decode cX12_findLeans 7 = .ok (.bipush 8, 2) := by decide +kernel
theorem dX12_findLeans_9 : decode cX12_findLeans 9 = .ok (.if_icmp .ge 127, 3) := by decide +kernel
theorem dX12_findLeans_12 : decode cX12_findLeans 12 = .ok (.iconst 0, 1) := by decide +kernel
theorem dX12_findLeans_13 : decode cX12_findLeans 13 = .ok (.istore_n 2, 1) := by decide +kernel
theorem dX12_findLeans_14 : decode cX12_findLeans 14 = .ok (.aload_n 0, 1) := by decide +kernel
theorem dX12_findLeans_15 : decode cX12_findLeans 15 = .ok (.getfield 188, 3) := by decide +kernel
theorem dX12_findLeans_18 : decode cX12_findLeans 18 = .ok (.iload_n 1, 1) := by decide +kernel
theorem dX12_findLeans_19 : decode cX12_findLeans 19 = .ok (.iconst 0, 1) := by decide +kernel
theorem dX12_findLeans_20 : decode cX12_findLeans 20 = .ok (.iastore, 1) := by decide +kernel
theorem dX12_findLeans_21 : decode cX12_findLeans 21 = .ok (.iconst 0, 1) := by decide +kernel
theorem dX12_findLeans_22 : decode cX12_findLeans 22 = .ok (.istore_n 3, 1) := by decide +kernel
theorem dX12_findLeans_23 : decode cX12_findLeans 23 = .ok (.iload_n 3, 1) := by decide +kernel
theorem dX12_findLeans_24 : decode cX12_findLeans 24 = .ok (.aload_n 0, 1) := by decide +kernel
theorem dX12_findLeans_25 : decode cX12_findLeans 25 = .ok (.getfield 372, 3) := by decide +kernel
theorem dX12_findLeans_28 : decode cX12_findLeans 28 = .ok (.if_icmp .ge 74, 3) := by decide +kernel
theorem dX12_findLeans_31 : decode cX12_findLeans 31 = .ok (.iconst 0, 1) := by decide +kernel
theorem dX12_findLeans_32 : decode cX12_findLeans 32 = .ok (.istore 4, 2) := by decide +kernel
theorem dX12_findLeans_34 : decode cX12_findLeans 34 = .ok (.iload 4, 2) := by decide +kernel
theorem dX12_findLeans_36 : decode cX12_findLeans 36 = .ok (.aload_n 0, 1) := by decide +kernel
theorem dX12_findLeans_37 : decode cX12_findLeans 37 = .ok (.getfield 372, 3) := by decide +kernel
theorem dX12_findLeans_40 : decode cX12_findLeans 40 = .ok (.if_icmp .ge 56, 3) := by decide +kernel
theorem dX12_findLeans_43 : decode cX12_findLeans 43 = .ok (.aload_n 0, 1) := by decide +kernel
theorem dX12_findLeans_44 : decode cX12_findLeans 44 = .ok (.getfield 137, 3) := by decide +kernel
theorem dX12_findLeans_47 : decode cX12_findLeans 47 = .ok (.iload_n 3, 1) := by decide +kernel
theorem dX12_findLeans_48 : decode cX12_findLeans 48 = .ok (.iaload, 1) := by decide +kernel
theorem dX12_findLeans_49 : decode cX12_findLeans 49 = .ok (.iload_n 1, 1) := by decide +kernel
theorem dX12_findLeans_50 : decode cX12_findLeans 50 = .ok (.if_icmp .ne 40, 3) := by decide +kernel
theorem dX12_findLeans_53 : decode cX12_findLeans 53 = .ok (.aload_n 0, 1) := by decide +kernel
theorem dX12_findLeans_54 : decode cX12_findLeans 54 = .ok (.iload_n 3, 1) := by decide +kernel
theorem dX12_findLeans_55 : decode cX12_findLeans 55 = .ok (.iload 4, 2) := by decide +kernel
theorem dX12_findLeans_57 : decode cX12_findLeans 57 = .ok (.invokevirtual 459, 3) := by decide +kernel
theorem dX12_findLeans_60 : decode cX12_findLeans 60 = .ok (.ifCond .eq 30, 3) := by decide +kernel
theorem dX12_findLeans_63 : decode cX12_findLeans 63 = .ok (.aload_n 0, 1) := by decide +kernel
theorem dX12_findLeans_64 : decode cX12_findLeans 64 = .ok (.getfield 188, 3) := by decide +kernel
theorem dX12_findLeans_67 : decode cX12_findLeans 67 = .ok (.iload_n 1, 1) := by decide +kernel
theorem dX12_findLeans_68 : decode cX12_findLeans 68 = .ok (.dup2, 1) := by decide +kernel
theorem dX12_findLeans_69 : decode cX12_findLeans 69 = .ok (.iaload, 1) := by decide +kernel
theorem dX12_findLeans_70 : decode cX12_findLeans 70 = .ok (.iconst 1, 1) := by decide +kernel
theorem dX12_findLeans_71 : decode cX12_findLeans 71 = .ok (.iadd, 1) := by decide +kernel
theorem dX12_findLeans_72 : decode cX12_findLeans 72 = .ok (.iastore, 1) := by decide +kernel
theorem dX12_findLeans_73 : decode cX12_findLeans 73 = .ok (.iload_n 2, 1) := by decide +kernel
theorem dX12_findLeans_74 : decode cX12_findLeans 74 = .ok (.aload_n 0, 1) := by decide +kernel
theorem dX12_findLeans_75 : decode cX12_findLeans 75 = .ok (.getfield 170, 3) := by decide +kernel
theorem dX12_findLeans_78 : decode cX12_findLeans 78 = .ok (.iload_n 3, 1) := by decide +kernel
theorem dX12_findLeans_79 : decode cX12_findLeans 79 = .ok (.iaload, 1) := by decide +kernel
theorem dX12_findLeans_80 : decode cX12_findLeans 80 = .ok (.aload_n 0, 1) := by decide +kernel
theorem dX12_findLeans_81 : decode cX12_findLeans 81 = .ok (.getfield 170, 3) := by decide +kernel
theorem dX12_findLeans_84 : decode cX12_findLeans 84 = .ok (.iload 4, 2) := by decide +kernel
theorem dX12_findLeans_86 : decode cX12_findLeans 86 = .ok (.iaload, 1) := by decide +kernel
theorem dX12_findLeans_87 : decode cX12_findLeans 87 = .ok (.isub, 1) := by decide +kernel
theorem dX12_findLeans_88 : decode cX12_findLeans 88 = .ok (.iadd, 1) := by decide +kernel
theorem dX12_findLeans_89 : decode cX12_findLeans 89 = .ok (.istore_n 2, 1) := by decide +kernel
theorem dX12_findLeans_90 : decode cX12_findLeans 90 = .ok (.iinc 4 1, 3) := by decide +kernel
theorem dX12_findLeans_93 : decode cX12_findLeans 93 = .ok (.goto (-59), 3) := by decide +kernel
theorem dX12_findLeans_96 : decode cX12_findLeans 96 = .ok (.iinc 3 1, 3) := by decide +kernel
theorem dX12_findLeans_99 : decode cX12_findLeans 99 = .ok (.goto (-76), 3) := by decide +kernel
theorem dX12_findLeans_102 : decode cX12_findLeans 102 = .ok (.aload_n 0, 1) := by decide +kernel
theorem dX12_findLeans_103 : decode cX12_findLeans 103 = .ok (.getfield 185, 3) := by decide +kernel
theorem dX12_findLeans_106 : decode cX12_findLeans 106 = .ok (.iload_n 1, 1) := by decide +kernel
theorem dX12_findLeans_107 : decode cX12_findLeans 107 = .ok (.aload_n 0, 1) := by decide +kernel
theorem dX12_findLeans_108 : decode cX12_findLeans 108 = .ok (.getfield 188, 3) := by decide +kernel
theorem dX12_findLeans_111 : decode cX12_findLeans 111 = .ok (.iload_n 1, 1) := by decide +kernel
theorem dX12_findLeans_112 : decode cX12_findLeans 112 = .ok (.iaload, 1) := by decide +kernel
theorem dX12_findLeans_113 : decode cX12_findLeans 113 = .ok (.iconst 2, 1) := by decide +kernel
theorem dX12_findLeans_114 : decode cX12_findLeans 114 = .ok (.if_icmp .ge 7, 3) := by decide +kernel
theorem dX12_findLeans_117 : decode cX12_findLeans 117 = .ok (.iconst 0, 1) := by decide +kernel
theorem dX12_findLeans_118 : decode cX12_findLeans 118 = .ok (.goto 11, 3) := by decide +kernel
theorem dX12_findLeans_121 : decode cX12_findLeans 121 = .ok (.iload_n 2, 1) := by decide +kernel
theorem dX12_findLeans_122 : decode cX12_findLeans 122 = .ok (.aload_n 0, 1) := by decide +kernel
theorem dX12_findLeans_123 : decode cX12_findLeans 123 = .ok (.getfield 188, 3) := by decide +kernel
theorem dX12_findLeans_126 : decode cX12_findLeans 126 = .ok (.iload_n 1, 1) := by decide +kernel
theorem dX12_findLeans_127 : decode cX12_findLeans 127 = .ok (.iaload, 1) := by decide +kernel
theorem dX12_findLeans_128 : decode cX12_findLeans 128 = .ok (.idiv, 1) := by decide +kernel
theorem dX12_findLeans_129 : decode cX12_findLeans 129 = .ok (.iastore, 1) := by decide +kernel
theorem dX12_findLeans_130 : decode cX12_findLeans 130 = .ok (.iinc 1 1, 3) := by decide +kernel
theorem dX12_findLeans_133 : decode cX12_findLeans 133 = .ok (.goto (-127), 3) := by decide +kernel
theorem dX12_findLeans_136 : decode cX12_findLeans 136 = .ok (.return_, 1) := by decide +kernel
theorem dX12_fairOf_0 : decode cX12_fairOf 0 = .ok (.aload_n 0, 1) := by decide +kernel
theorem dX12_fairOf_1 : decode cX12_fairOf 1 = .ok (.getfield 170, 3) := by decide +kernel
theorem dX12_fairOf_4 : decode cX12_fairOf 4 = .ok (.iload_n 1, 1) := by decide +kernel
theorem dX12_fairOf_5 : decode cX12_fairOf 5 = .ok (.iaload, 1) := by decide +kernel
theorem dX12_fairOf_6 : decode cX12_fairOf 6 = .ok (.aload_n 0, 1) := by decide +kernel
theorem dX12_fairOf_7 : decode cX12_fairOf 7 = .ok (.getfield 185, 3) := by decide +kernel
theorem dX12_fairOf_10 : decode cX12_fairOf 10 = .ok (.aload_n 0, 1) := by decide +kernel
theorem dX12_fairOf_11 : decode cX12_fairOf 11 = .ok (.getfield 137, 3) := by decide +kernel
theorem dX12_fairOf_14 : decode cX12_fairOf 14 = .ok (.iload_n 1, 1) := by decide +kernel
theorem dX12_fairOf_15 : decode cX12_fairOf 15 = .ok (.iaload, 1) := by decide +kernel
theorem dX12_fairOf_16 : decode cX12_fairOf 16 = .ok (.iaload, 1) := by decide +kernel
theorem dX12_fairOf_17 : decode cX12_fairOf 17 = .ok (.isub, 1) := by decide +kernel
theorem dX12_fairOf_18 : decode cX12_fairOf 18 = .ok (.ireturn, 1) := by decide +kernel
theorem dX12_fair_0 : decode cX12_fair 0 = .ok (.aload_n 0, 1) := by decide +kernel
theorem dX12_fair_1 : decode cX12_fair 1 = .ok (.aload_n 0, 1) := by decide +kernel
theorem dX12_fair_2 : decode cX12_fair 2 = .ok (.iload_n 1, 1) := by decide +kernel
theorem dX12_fair_3 : decode cX12_fair 3 = .ok (.invokevirtual 394, 3) := by decide +kernel
theorem dX12_fair_6 : decode cX12_fair 6 = .ok (.ifCond .eq 7, 3) := by decide +kernel
theorem dX12_fair_9 : decode cX12_fair 9 = .ok (.iconst 0, 1) := by decide +kernel
theorem dX12_fair_10 : decode cX12_fair 10 = .ok (.goto 4, 3) := by decide +kernel
theorem dX12_fair_13 : decode cX12_fair 13 = .ok (.iconst 1, 1) := by decide +kernel
theorem dX12_fair_14 : decode cX12_fair 14 = .ok (.putfield 1, 3) := by decide +kernel
theorem dX12_fair_17 : decode cX12_fair 17 = .ok (.aload_n 0, 1) := by decide +kernel
theorem dX12_fair_18 : decode cX12_fair 18 = .ok (.getfield 1, 3) := by decide +kernel
theorem dX12_fair_21 : decode cX12_fair 21 = .ok (.ifCond .le 5, 3) := by decide +kernel
theorem dX12_fair_24 : decode cX12_fair 24 = .ok (.iconst 0, 1) := by decide +kernel
theorem dX12_fair_25 : decode cX12_fair 25 = .ok (.ireturn, 1) := by decide +kernel
theorem dX12_fair_26 : decode cX12_fair 26 = .ok (.aload_n 0, 1) := by decide +kernel
theorem dX12_fair_27 : decode cX12_fair 27 = .ok (.invokevirtual 462, 3) := by decide +kernel
theorem dX12_fair_30 : decode cX12_fair 30 = .ok (.aload_n 0, 1) := by decide +kernel
theorem dX12_fair_31 : decode cX12_fair 31 = .ok (.iload_n 1, 1) := by decide +kernel
theorem dX12_fair_32 : decode cX12_fair 32 = .ok (.invokevirtual 465, 3) := by decide +kernel
theorem dX12_fair_35 : decode cX12_fair 35 = .ok (.ireturn, 1) := by decide +kernel
theorem dX12_lean_0 : decode cX12_lean 0 = .ok (.aload_n 0, 1) := by decide +kernel
theorem dX12_lean_1 : decode cX12_lean 1 = .ok (.iconst 1, 1) := by decide +kernel
theorem dX12_lean_2 : decode cX12_lean 2 = .ok (.putfield 1, 3) := by decide +kernel
theorem dX12_lean_5 : decode cX12_lean 5 = .ok (.aload_n 0, 1) := by decide +kernel
theorem dX12_lean_6 : decode cX12_lean 6 = .ok (.iload_n 1, 1) := by decide +kernel
theorem dX12_lean_7 : decode cX12_lean 7 = .ok (.invokevirtual 378, 3) := by decide +kernel
theorem dX12_lean_10 : decode cX12_lean 10 = .ok (.ifCond .ne 5, 3) := by decide +kernel
theorem dX12_lean_13 : decode cX12_lean 13 = .ok (.iconst 0, 1) := by decide +kernel
theorem dX12_lean_14 : decode cX12_lean 14 = .ok (.ireturn, 1) := by decide +kernel
theorem dX12_lean_15 : decode cX12_lean 15 = .ok (.aload_n 0, 1) := by decide +kernel
theorem dX12_lean_16 : decode cX12_lean 16 = .ok (.invokevirtual 462, 3) := by decide +kernel
theorem dX12_lean_19 : decode cX12_lean 19 = .ok (.aload_n 0, 1) := by decide +kernel
theorem dX12_lean_20 : decode cX12_lean 20 = .ok (.aload_n 0, 1) := by decide +kernel
theorem dX12_lean_21 : decode cX12_lean 21 = .ok (.getfield 188, 3) := by decide +kernel
theorem dX12_lean_24 : decode cX12_lean 24 = .ok (.iload_n 1, 1) := by decide +kernel
theorem dX12_lean_25 : decode cX12_lean 25 = .ok (.iaload, 1) := by decide +kernel
theorem dX12_lean_26 : decode cX12_lean 26 = .ok (.iconst 2, 1) := by decide +kernel
theorem dX12_lean_27 : decode cX12_lean 27 = .ok (.if_icmp .ge 7, 3) := by decide +kernel
theorem dX12_lean_30 : decode cX12_lean 30 = .ok (.iconst 1, 1) := by decide +kernel
theorem dX12_lean_31 : decode cX12_lean 31 = .ok (.goto 4, 3) := by decide +kernel
theorem dX12_lean_34 : decode cX12_lean 34 = .ok (.iconst 0, 1) := by decide +kernel
theorem dX12_lean_35 : decode cX12_lean 35 = .ok (.putfield 1, 3) := by decide +kernel
theorem dX12_lean_38 : decode cX12_lean 38 = .ok (.aload_n 0, 1) := by decide +kernel
theorem dX12_lean_39 : decode cX12_lean 39 = .ok (.getfield 1, 3) := by decide +kernel
theorem dX12_lean_42 : decode cX12_lean 42 = .ok (.ifCond .le 7, 3) := by decide +kernel
theorem dX12_lean_45 : decode cX12_lean 45 = .ok (.iconst 0, 1) := by decide +kernel
theorem dX12_lean_46 : decode cX12_lean 46 = .ok (.goto 9, 3) := by decide +kernel
theorem dX12_lean_49 : decode cX12_lean 49 = .ok (.aload_n 0, 1) := by decide +kernel
theorem dX12_lean_50 : decode cX12_lean 50 = .ok (.getfield 185, 3) := by decide +kernel
theorem dX12_lean_53 : decode cX12_lean 53 = .ok (.iload_n 1, 1) := by decide +kernel
theorem dX12_lean_54 : decode cX12_lean 54 = .ok (.iaload, 1) := by decide +kernel
theorem dX12_lean_55 : decode cX12_lean 55 = .ok (.ireturn, 1) := by decide +kernel
theorem dX12_meetings_0 : decode cX12_meetings 0 = .ok (.aload_n 0, 1) := by decide +kernel
theorem dX12_meetings_1 : decode cX12_meetings 1 = .ok (.iconst 0, 1) := by decide +kernel
theorem dX12_meetings_2 : decode cX12_meetings 2 = .ok (.putfield 1, 3) := by decide +kernel
theorem dX12_meetings_5 : decode cX12_meetings 5 = .ok (.aload_n 0, 1) := by decide +kernel
theorem dX12_meetings_6 : decode cX12_meetings 6 = .ok (.iload_n 1, 1) := by decide +kernel
theorem dX12_meetings_7 : decode cX12_meetings 7 = .ok (.invokevirtual 378, 3) := by decide +kernel
theorem dX12_meetings_10 : decode cX12_meetings 10 = .ok (.ifCond .eq 16, 3) := by decide +kernel
theorem dX12_meetings_13 : decode cX12_meetings 13 = .ok (.aload_n 0, 1) := by decide +kernel
theorem dX12_meetings_14 : decode cX12_meetings 14 = .ok (.iload_n 2, 1) := by decide +kernel
theorem dX12_meetings_15 : decode cX12_meetings 15 = .ok (.invokevirtual 378, 3) := by decide +kernel
theorem dX12_meetings_18 : decode cX12_meetings 18 = .ok (.ifCond .eq 8, 3) := by decide +kernel
theorem dX12_meetings_21 : decode cX12_meetings 21 = .ok (.iload_n 1, 1) := by decide +kernel
theorem dX12_meetings_22 : decode cX12_meetings 22 = .ok (.iload_n 2, 1) := by decide +kernel
theorem dX12_meetings_23 : decode cX12_meetings 23 = .ok (.if_icmp .ne 5, 3) := by decide +kernel
theorem dX12_meetings_26 : decode cX12_meetings 26 = .ok (.iconst (-1), 1) := by decide +kernel
theorem dX12_meetings_27 : decode cX12_meetings 27 = .ok (.ireturn, 1) := by decide +kernel
theorem dX12_meetings_28 : decode cX12_meetings 28 = .ok (.aload_n 0, 1) := by decide +kernel
theorem dX12_meetings_29 : decode cX12_meetings 29 = .ok (.invokevirtual 450, 3) := by decide +kernel
theorem dX12_meetings_32 : decode cX12_meetings 32 = .ok (.iconst 0, 1) := by decide +kernel
theorem dX12_meetings_33 : decode cX12_meetings 33 = .ok (.istore_n 3, 1) := by decide +kernel
theorem dX12_meetings_34 : decode cX12_meetings 34 = .ok (.iconst 0, 1) := by decide +kernel
theorem dX12_meetings_35 : decode cX12_meetings 35 = .ok (.istore 4, 2) := by decide +kernel
theorem dX12_meetings_37 : decode cX12_meetings 37 = .ok (.iload 4, 2) := by decide +kernel
theorem dX12_meetings_39 : decode cX12_meetings 39 = .ok (.aload_n 0, 1) := by decide +kernel
theorem dX12_meetings_40 : decode cX12_meetings 40 = .ok (.getfield 372, 3) := by decide +kernel
theorem dX12_meetings_43 : decode cX12_meetings 43 = .ok (.if_icmp .ge 68, 3) := by decide +kernel
theorem dX12_meetings_46 : decode cX12_meetings 46 = .ok (.iconst 0, 1) := by decide +kernel
theorem dX12_meetings_47 : decode cX12_meetings 47 = .ok (.istore 5, 2) := by decide +kernel
theorem dX12_meetings_49 : decode cX12_meetings 49 = .ok (.iload 5, 2) := by decide +kernel
theorem dX12_meetings_51 : decode cX12_meetings 51 = .ok (.aload_n 0, 1) := by decide +kernel
theorem dX12_meetings_52 : decode cX12_meetings 52 = .ok (.getfield 372, 3) := by decide +kernel
theorem dX12_meetings_55 : decode cX12_meetings 55 = .ok (.if_icmp .ge 50, 3) := by decide +kernel
theorem dX12_meetings_58 : decode cX12_meetings 58 = .ok (.iload_n 3, 1) := by decide +kernel
theorem dX12_meetings_59 : decode cX12_meetings 59 = .ok (.aload_n 0, 1) := by decide +kernel
theorem dX12_meetings_60 : decode cX12_meetings 60 = .ok (.getfield 137, 3) := by decide +kernel
theorem dX12_meetings_63 : decode cX12_meetings 63 = .ok (.iload 4, 2) := by decide +kernel
theorem dX12_meetings_65 : decode cX12_meetings 65 = .ok (.iaload, 1) := by decide +kernel
theorem dX12_meetings_66 : decode cX12_meetings 66 = .ok (.iload_n 1, 1) := by decide +kernel
theorem dX12_meetings_67 : decode cX12_meetings 67 = .ok (.if_icmp .ne 29, 3) := by decide +kernel
theorem dX12_meetings_70 : decode cX12_meetings 70 = .ok (.aload_n 0, 1) := by decide +kernel
theorem dX12_meetings_71 : decode cX12_meetings 71 = .ok (.getfield 137, 3) := by decide +kernel
theorem dX12_meetings_74 : decode cX12_meetings 74 = .ok (.iload 5, 2) := by decide +kernel
theorem dX12_meetings_76 : decode cX12_meetings 76 = .ok (.iaload, 1) := by decide +kernel
theorem dX12_meetings_77 : decode cX12_meetings 77 = .ok (.iload_n 2, 1) := by decide +kernel
theorem dX12_meetings_78 : decode cX12_meetings 78 = .ok (.if_icmp .ne 18, 3) := by decide +kernel
theorem dX12_meetings_81 : decode cX12_meetings 81 = .ok (.aload_n 0, 1) := by decide +kernel
theorem dX12_meetings_82 : decode cX12_meetings 82 = .ok (.iload 4, 2) := by decide +kernel
theorem dX12_meetings_84 : decode cX12_meetings 84 = .ok (.iload 5, 2) := by decide +kernel
theorem dX12_meetings_86 : decode cX12_meetings 86 = .ok (.invokevirtual 459, 3) := by decide +kernel
theorem dX12_meetings_89 : decode cX12_meetings 89 = .ok (.ifCond .eq 7, 3) := by decide +kernel
theorem dX12_meetings_92 : decode cX12_meetings 92 = .ok (.iconst 1, 1) := by decide +kernel
theorem dX12_meetings_93 : decode cX12_meetings 93 = .ok (.goto 4, 3) := by decide +kernel
theorem dX12_meetings_96 : decode cX12_meetings 96 = .ok (.iconst 0, 1) := by decide +kernel
theorem dX12_meetings_97 : decode cX12_meetings 97 = .ok (.iadd, 1) := by decide +kernel
theorem dX12_meetings_98 : decode cX12_meetings 98 = .ok (.istore_n 3, 1) := by decide +kernel
theorem dX12_meetings_99 : decode cX12_meetings 99 = .ok (.iinc 5 1, 3) := by decide +kernel
theorem dX12_meetings_102 : decode cX12_meetings 102 = .ok (.goto (-53), 3) := by decide +kernel
theorem dX12_meetings_105 : decode cX12_meetings 105 = .ok (.iinc 4 1, 3) := by decide +kernel
theorem dX12_meetings_108 : decode cX12_meetings 108 = .ok (.goto (-71), 3) := by decide +kernel
theorem dX12_meetings_111 : decode cX12_meetings 111 = .ok (.iload_n 3, 1) := by decide +kernel
theorem dX12_meetings_112 : decode cX12_meetings 112 = .ok (.ireturn, 1) := by decide +kernel
theorem dX12_areDays_0 : decode cX12_areDays 0 = .ok (.iload_n 0, 1) := by decide +kernel
theorem dX12_areDays_1 : decode cX12_areDays 1 = .ok (.invokestatic 456, 3) := by decide +kernel
theorem dX12_areDays_4 : decode cX12_areDays 4 = .ok (.ifCond .eq 19, 3) := by decide +kernel
theorem dX12_areDays_7 : decode cX12_areDays 7 = .ok (.iload_n 1, 1) := by decide +kernel
theorem dX12_areDays_8 : decode cX12_areDays 8 = .ok (.invokestatic 456, 3) := by decide +kernel
theorem dX12_areDays_11 : decode cX12_areDays 11 = .ok (.ifCond .eq 12, 3) := by decide +kernel
theorem dX12_areDays_14 : decode cX12_areDays 14 = .ok (.iload_n 0, 1) := by decide +kernel
theorem dX12_areDays_15 : decode cX12_areDays 15 = .ok (.iload_n 1, 1) := by decide +kernel
theorem dX12_areDays_16 : decode cX12_areDays 16 = .ok (.if_icmp .gt 7, 3) := by decide +kernel
theorem dX12_areDays_19 : decode cX12_areDays 19 = .ok (.iconst 1, 1) := by decide +kernel
theorem dX12_areDays_20 : decode cX12_areDays 20 = .ok (.goto 4, 3) := by decide +kernel
theorem dX12_areDays_23 : decode cX12_areDays 23 = .ok (.iconst 0, 1) := by decide +kernel
theorem dX12_areDays_24 : decode cX12_areDays 24 = .ok (.ireturn, 1) := by decide +kernel
theorem dX12_findMeans_0 : decode cX12_findMeans 0 = .ok (.aload_n 0, 1) := by decide +kernel
theorem dX12_findMeans_1 : decode cX12_findMeans 1 = .ok (.invokevirtual 462, 3) := by decide +kernel
theorem dX12_findMeans_4 : decode cX12_findMeans 4 = .ok (.iconst 0, 1) := by decide +kernel
theorem dX12_findMeans_5 : decode cX12_findMeans 5 = .ok (.istore_n 3, 1) := by decide +kernel
theorem dX12_findMeans_6 : decode cX12_findMeans 6 = .ok (.iload_n 3, 1) := by decide +kernel
theorem dX12_findMeans_7 : decode cX12_findMeans 7 = .ok (.aload_n 0, 1) := by decide +kernel
theorem dX12_findMeans_8 : decode cX12_findMeans 8 = .ok (.getfield 366, 3) := by decide +kernel
theorem dX12_findMeans_11 : decode cX12_findMeans 11 = .ok (.if_icmp .ge 124, 3) := by decide +kernel
theorem dX12_findMeans_14 : decode cX12_findMeans 14 = .ok (.iconst 0, 1) := by decide +kernel
theorem dX12_findMeans_15 : decode cX12_findMeans 15 = .ok (.istore 4, 2) := by decide +kernel
theorem dX12_findMeans_17 : decode cX12_findMeans 17 = .ok (.aload_n 0, 1) := by decide +kernel
theorem dX12_findMeans_18 : decode cX12_findMeans 18 = .ok (.getfield 194, 3) := by decide +kernel
theorem dX12_findMeans_21 : decode cX12_findMeans 21 = .ok (.iload_n 3, 1) := by decide +kernel
theorem dX12_findMeans_22 : decode cX12_findMeans 22 = .ok (.iconst 0, 1) := by decide +kernel
theorem dX12_findMeans_23 : decode cX12_findMeans 23 = .ok (.iastore, 1) := by decide +kernel
theorem dX12_findMeans_24 : decode cX12_findMeans 24 = .ok (.iconst 0, 1) := by decide +kernel
theorem dX12_findMeans_25 : decode cX12_findMeans 25 = .ok (.istore 5, 2) := by decide +kernel
theorem dX12_findMeans_27 : decode cX12_findMeans 27 = .ok (.iload 5, 2) := by decide +kernel
theorem dX12_findMeans_29 : decode cX12_findMeans 29 = .ok (.aload_n 0, 1) := by decide +kernel
theorem dX12_findMeans_30 : decode cX12_findMeans 30 = .ok (.getfield 372, 3) := by decide +kernel
theorem dX12_findMeans_33 : decode cX12_findMeans 33 = .ok (.if_icmp .ge 65, 3) := by decide +kernel
theorem dX12_findMeans_36 : decode cX12_findMeans 36 = .ok (.aload_n 0, 1) := by decide +kernel
theorem dX12_findMeans_37 : decode cX12_findMeans 37 = .ok (.iload 5, 2) := by decide +kernel
theorem dX12_findMeans_39 : decode cX12_findMeans 39 = .ok (.invokevirtual 453, 3) := by decide +kernel
theorem dX12_findMeans_42 : decode cX12_findMeans 42 = .ok (.ifCond .eq 50, 3) := by decide +kernel
theorem dX12_findMeans_45 : decode cX12_findMeans 45 = .ok (.aload_n 0, 1) := by decide +kernel
theorem dX12_findMeans_46 : decode cX12_findMeans 46 = .ok (.getfield 134, 3) := by decide +kernel
theorem dX12_findMeans_49 : decode cX12_findMeans 49 = .ok (.iload 5, 2) := by decide +kernel
theorem dX12_findMeans_51 : decode cX12_findMeans 51 = .ok (.iaload, 1) := by decide +kernel
theorem dX12_findMeans_52 : decode cX12_findMeans 52 = .ok (.iload_n 3, 1) := by decide +kernel
theorem dX12_findMeans_53 : decode cX12_findMeans 53 = .ok (.if_icmp .ne 39, 3) := by decide +kernel
theorem dX12_findMeans_56 : decode cX12_findMeans 56 = .ok (.aload_n 0, 1) := by decide +kernel
theorem dX12_findMeans_57 : decode cX12_findMeans 57 = .ok (.getfield 140, 3) := by decide +kernel
theorem dX12_findMeans_60 : decode cX12_findMeans 60 = .ok (.iload 5, 2) := by decide +kernel
theorem dX12_findMeans_62 : decode cX12_findMeans 62 = .ok (.iaload, 1) := by decide +kernel
theorem dX12_findMeans_63 : decode cX12_findMeans 63 = .ok (.iload_n 1, 1) := by decide +kernel
theorem dX12_findMeans_64 : decode cX12_findMeans 64 = .ok (.iload_n 2, 1) := by decide +kernel
theorem dX12_findMeans_65 : decode cX12_findMeans 65 = .ok (.invokestatic 358, 3) := by decide +kernel
theorem dX12_findMeans_68 : decode cX12_findMeans 68 = .ok (.ifCond .eq 24, 3) := by decide +kernel
theorem dX12_findMeans_71 : decode cX12_findMeans 71 = .ok (.iload 4, 2) := by decide +kernel
theorem dX12_findMeans_73 : decode cX12_findMeans 73 = .ok (.aload_n 0, 1) := by decide +kernel
theorem dX12_findMeans_74 : decode cX12_findMeans 74 = .ok (.iload 5, 2) := by decide +kernel
theorem dX12_findMeans_76 : decode cX12_findMeans 76 = .ok (.invokevirtual 465, 3) := by decide +kernel
theorem dX12_findMeans_79 : decode cX12_findMeans 79 = .ok (.iadd, 1) := by decide +kernel
theorem dX12_findMeans_80 : decode cX12_findMeans 80 = .ok (.istore 4, 2) := by decide +kernel
theorem dX12_findMeans_82 : decode cX12_findMeans 82 = .ok (.aload_n 0, 1) := by decide +kernel
theorem dX12_findMeans_83 : decode cX12_findMeans 83 = .ok (.getfield 194, 3) := by decide +kernel
theorem dX12_findMeans_86 : decode cX12_findMeans 86 = .ok (.iload_n 3, 1) := by decide +kernel
theorem dX12_findMeans_87 : decode cX12_findMeans 87 = .ok (.dup2, 1) := by decide +kernel
theorem dX12_findMeans_88 : decode cX12_findMeans 88 = .ok (.iaload, 1) := by decide +kernel
theorem dX12_findMeans_89 : decode cX12_findMeans 89 = .ok (.iconst 1, 1) := by decide +kernel
theorem dX12_findMeans_90 : decode cX12_findMeans 90 = .ok (.iadd, 1) := by decide +kernel
theorem dX12_findMeans_91 : decode cX12_findMeans 91 = .ok (.iastore, 1) := by decide +kernel
theorem dX12_findMeans_92 : decode cX12_findMeans 92 = .ok (.iinc 5 1, 3) := by decide +kernel
theorem dX12_findMeans_95 : decode cX12_findMeans 95 = .ok (.goto (-68), 3) := by decide +kernel
theorem dX12_findMeans_98 : decode cX12_findMeans 98 = .ok (.aload_n 0, 1) := by decide +kernel
theorem dX12_findMeans_99 : decode cX12_findMeans 99 = .ok (.getfield 191, 3) := by decide +kernel
theorem dX12_findMeans_102 : decode cX12_findMeans 102 = .ok (.iload_n 3, 1) := by decide +kernel
theorem dX12_findMeans_103 : decode cX12_findMeans 103 = .ok (.aload_n 0, 1) := by decide +kernel
theorem dX12_findMeans_104 : decode cX12_findMeans 104 = .ok (.getfield 194, 3) := by decide +kernel
theorem dX12_findMeans_107 : decode cX12_findMeans 107 = .ok (.iload_n 3, 1) := by decide +kernel
theorem dX12_findMeans_108 : decode cX12_findMeans 108 = .ok (.iaload, 1) := by decide +kernel
theorem dX12_findMeans_109 : decode cX12_findMeans 109 = .ok (.ifCond .ne 7, 3) := by decide +kernel
theorem dX12_findMeans_112 : decode cX12_findMeans 112 = .ok (.iconst 0, 1) := by decide +kernel
theorem dX12_findMeans_113 : decode cX12_findMeans 113 = .ok (.goto 15, 3) := by decide +kernel
theorem dX12_findMeans_116 : decode cX12_findMeans 116 = .ok (.bipush 100, 2) := by decide +kernel
theorem dX12_findMeans_118 : decode cX12_findMeans 118 = .ok (.iload 4, 2) := by decide +kernel
theorem dX12_findMeans_120 : decode cX12_findMeans 120 = .ok (.imul, 1) := by decide +kernel
theorem dX12_findMeans_121 : decode cX12_findMeans 121 = .ok (.aload_n 0, 1) := by decide +kernel
theorem dX12_findMeans_122 : decode cX12_findMeans 122 = .ok (.getfield 194, 3) := by decide +kernel
theorem dX12_findMeans_125 : decode cX12_findMeans 125 = .ok (.iload_n 3, 1) := by decide +kernel
theorem dX12_findMeans_126 : decode cX12_findMeans 126 = .ok (.iaload, 1) := by decide +kernel
theorem dX12_findMeans_127 : decode cX12_findMeans 127 = .ok (.idiv, 1) := by decide +kernel
theorem dX12_findMeans_128 : decode cX12_findMeans 128 = .ok (.iastore, 1) := by decide +kernel
theorem dX12_findMeans_129 : decode cX12_findMeans 129 = .ok (.iinc 3 1, 3) := by decide +kernel
theorem dX12_findMeans_132 : decode cX12_findMeans 132 = .ok (.goto (-126), 3) := by decide +kernel
theorem dX12_findMeans_135 : decode cX12_findMeans 135 = .ok (.return_, 1) := by decide +kernel
theorem dX12_hasMean_0 : decode cX12_hasMean 0 = .ok (.aload_n 0, 1) := by decide +kernel
theorem dX12_hasMean_1 : decode cX12_hasMean 1 = .ok (.iload_n 1, 1) := by decide +kernel
theorem dX12_hasMean_2 : decode cX12_hasMean 2 = .ok (.invokevirtual 375, 3) := by decide +kernel
theorem dX12_hasMean_5 : decode cX12_hasMean 5 = .ok (.ifCond .eq 11, 3) := by decide +kernel
theorem dX12_hasMean_8 : decode cX12_hasMean 8 = .ok (.iload_n 2, 1) := by decide +kernel
theorem dX12_hasMean_9 : decode cX12_hasMean 9 = .ok (.iload_n 3, 1) := by decide +kernel
theorem dX12_hasMean_10 : decode cX12_hasMean 10 = .ok (.invokestatic 468, 3) := by decide +kernel
theorem dX12_hasMean_13 : decode cX12_hasMean 13 = .ok (.ifCond .ne 5, 3) := by decide +kernel
theorem dX12_hasMean_16 : decode cX12_hasMean 16 = .ok (.iconst 0, 1) := by decide +kernel
theorem dX12_hasMean_17 : decode cX12_hasMean 17 = .ok (.ireturn, 1) := by decide +kernel
theorem dX12_hasMean_18 : decode cX12_hasMean 18 = .ok (.aload_n 0, 1) := by decide +kernel
theorem dX12_hasMean_19 : decode cX12_hasMean 19 = .ok (.iload_n 2, 1) := by decide +kernel
theorem dX12_hasMean_20 : decode cX12_hasMean 20 = .ok (.iload_n 3, 1) := by decide +kernel
theorem dX12_hasMean_21 : decode cX12_hasMean 21 = .ok (.invokevirtual 471, 3) := by decide +kernel
theorem dX12_hasMean_24 : decode cX12_hasMean 24 = .ok (.aload_n 0, 1) := by decide +kernel
theorem dX12_hasMean_25 : decode cX12_hasMean 25 = .ok (.getfield 194, 3) := by decide +kernel
theorem dX12_hasMean_28 : decode cX12_hasMean 28 = .ok (.iload_n 1, 1) := by decide +kernel
theorem dX12_hasMean_29 : decode cX12_hasMean 29 = .ok (.iaload, 1) := by decide +kernel
theorem dX12_hasMean_30 : decode cX12_hasMean 30 = .ok (.ifCond .le 7, 3) := by decide +kernel
theorem dX12_hasMean_33 : decode cX12_hasMean 33 = .ok (.iconst 1, 1) := by decide +kernel
theorem dX12_hasMean_34 : decode cX12_hasMean 34 = .ok (.goto 4, 3) := by decide +kernel
theorem dX12_hasMean_37 : decode cX12_hasMean 37 = .ok (.iconst 0, 1) := by decide +kernel
theorem dX12_hasMean_38 : decode cX12_hasMean 38 = .ok (.ireturn, 1) := by decide +kernel
theorem dX12_mean_0 : decode cX12_mean 0 = .ok (.aload_n 0, 1) := by decide +kernel
theorem dX12_mean_1 : decode cX12_mean 1 = .ok (.aload_n 0, 1) := by decide +kernel
theorem dX12_mean_2 : decode cX12_mean 2 = .ok (.iload_n 1, 1) := by decide +kernel
theorem dX12_mean_3 : decode cX12_mean 3 = .ok (.iload_n 2, 1) := by decide +kernel
theorem dX12_mean_4 : decode cX12_mean 4 = .ok (.iload_n 3, 1) := by decide +kernel
theorem dX12_mean_5 : decode cX12_mean 5 = .ok (.invokevirtual 474, 3) := by decide +kernel
theorem dX12_mean_8 : decode cX12_mean 8 = .ok (.ifCond .eq 7, 3) := by decide +kernel
theorem dX12_mean_11 : decode cX12_mean 11 = .ok (.iconst 0, 1) := by decide +kernel
theorem dX12_mean_12 : decode cX12_mean 12 = .ok (.goto 4, 3) := by decide +kernel
theorem dX12_mean_15 : decode cX12_mean 15 = .ok (.iconst 1, 1) := by decide +kernel
theorem dX12_mean_16 : decode cX12_mean 16 = .ok (.putfield 1, 3) := by decide +kernel
theorem dX12_mean_19 : decode cX12_mean 19 = .ok (.aload_n 0, 1) := by decide +kernel
theorem dX12_mean_20 : decode cX12_mean 20 = .ok (.getfield 1, 3) := by decide +kernel
theorem dX12_mean_23 : decode cX12_mean 23 = .ok (.ifCond .le 7, 3) := by decide +kernel
theorem dX12_mean_26 : decode cX12_mean 26 = .ok (.iconst 0, 1) := by decide +kernel
theorem dX12_mean_27 : decode cX12_mean 27 = .ok (.goto 9, 3) := by decide +kernel
theorem dX12_mean_30 : decode cX12_mean 30 = .ok (.aload_n 0, 1) := by decide +kernel
theorem dX12_mean_31 : decode cX12_mean 31 = .ok (.getfield 191, 3) := by decide +kernel
theorem dX12_mean_34 : decode cX12_mean 34 = .ok (.iload_n 1, 1) := by decide +kernel
theorem dX12_mean_35 : decode cX12_mean 35 = .ok (.iaload, 1) := by decide +kernel
theorem dX12_mean_36 : decode cX12_mean 36 = .ok (.ireturn, 1) := by decide +kernel
theorem dX12_doubtOf_0 : decode cX12_doubtOf 0 = .ok (.bipush 100, 2) := by decide +kernel
theorem dX12_doubtOf_2 : decode cX12_doubtOf 2 = .ok (.aload_n 0, 1) := by decide +kernel
theorem dX12_doubtOf_3 : decode cX12_doubtOf 3 = .ok (.getfield 225, 3) := by decide +kernel
theorem dX12_doubtOf_6 : decode cX12_doubtOf 6 = .ok (.imul, 1) := by decide +kernel
theorem dX12_doubtOf_7 : decode cX12_doubtOf 7 = .ok (.aload_n 0, 1) := by decide +kernel
theorem dX12_doubtOf_8 : decode cX12_doubtOf 8 = .ok (.getfield 194, 3) := by decide +kernel
theorem dX12_doubtOf_11 : decode cX12_doubtOf 11 = .ok (.iload_n 1, 1) := by decide +kernel
theorem dX12_doubtOf_12 : decode cX12_doubtOf 12 = .ok (.iaload, 1) := by decide +kernel
theorem dX12_doubtOf_13 : decode cX12_doubtOf 13 = .ok (.idiv, 1) := by decide +kernel
theorem dX12_doubtOf_14 : decode cX12_doubtOf 14 = .ok (.ireturn, 1) := by decide +kernel
theorem dX12_doubt_0 : decode cX12_doubt 0 = .ok (.aload_n 0, 1) := by decide +kernel
theorem dX12_doubt_1 : decode cX12_doubt 1 = .ok (.iconst 0, 1) := by decide +kernel
theorem dX12_doubt_2 : decode cX12_doubt 2 = .ok (.putfield 1, 3) := by decide +kernel
theorem dX12_doubt_5 : decode cX12_doubt 5 = .ok (.aload_n 0, 1) := by decide +kernel
theorem dX12_doubt_6 : decode cX12_doubt 6 = .ok (.iload_n 1, 1) := by decide +kernel
theorem dX12_doubt_7 : decode cX12_doubt 7 = .ok (.iload_n 2, 1) := by decide +kernel
theorem dX12_doubt_8 : decode cX12_doubt 8 = .ok (.iload_n 3, 1) := by decide +kernel
theorem dX12_doubt_9 : decode cX12_doubt 9 = .ok (.invokevirtual 474, 3) := by decide +kernel
theorem dX12_doubt_12 : decode cX12_doubt 12 = .ok (.ifCond .eq 11, 3) := by decide +kernel
theorem dX12_doubt_15 : decode cX12_doubt 15 = .ok (.aload_n 0, 1) := by decide +kernel
theorem dX12_doubt_16 : decode cX12_doubt 16 = .ok (.iload_n 1, 1) := by decide +kernel
theorem dX12_doubt_17 : decode cX12_doubt 17 = .ok (.invokevirtual 477, 3) := by decide +kernel
theorem dX12_doubt_20 : decode cX12_doubt 20 = .ok (.goto 4, 3) := by decide +kernel
theorem dX12_doubt_23 : decode cX12_doubt 23 = .ok (.iconst (-1), 1) := by decide +kernel
theorem dX12_doubt_24 : decode cX12_doubt 24 = .ok (.ireturn, 1) := by decide +kernel
theorem dX12_isLess_0 : decode cX12_isLess 0 = .ok (.aload_n 0, 1) := by decide +kernel
theorem dX12_isLess_1 : decode cX12_isLess 1 = .ok (.getfield 191, 3) := by decide +kernel
theorem dX12_isLess_4 : decode cX12_isLess 4 = .ok (.iload_n 2, 1) := by decide +kernel
theorem dX12_isLess_5 : decode cX12_isLess 5 = .ok (.iaload, 1) := by decide +kernel
theorem dX12_isLess_6 : decode cX12_isLess 6 = .ok (.aload_n 0, 1) := by decide +kernel
theorem dX12_isLess_7 : decode cX12_isLess 7 = .ok (.getfield 191, 3) := by decide +kernel
theorem dX12_isLess_10 : decode cX12_isLess 10 = .ok (.iload_n 1, 1) := by decide +kernel
theorem dX12_isLess_11 : decode cX12_isLess 11 = .ok (.iaload, 1) := by decide +kernel
theorem dX12_isLess_12 : decode cX12_isLess 12 = .ok (.isub, 1) := by decide +kernel
theorem dX12_isLess_13 : decode cX12_isLess 13 = .ok (.aload_n 0, 1) := by decide +kernel
theorem dX12_isLess_14 : decode cX12_isLess 14 = .ok (.iload_n 1, 1) := by decide +kernel
theorem dX12_isLess_15 : decode cX12_isLess 15 = .ok (.invokevirtual 477, 3) := by decide +kernel
theorem dX12_isLess_18 : decode cX12_isLess 18 = .ok (.aload_n 0, 1) := by decide +kernel
theorem dX12_isLess_19 : decode cX12_isLess 19 = .ok (.iload_n 2, 1) := by decide +kernel
theorem dX12_isLess_20 : decode cX12_isLess 20 = .ok (.invokevirtual 477, 3) := by decide +kernel
theorem dX12_isLess_23 : decode cX12_isLess 23 = .ok (.iadd, 1) := by decide +kernel
theorem dX12_isLess_24 : decode cX12_isLess 24 = .ok (.if_icmp .le 7, 3) := by decide +kernel
theorem dX12_isLess_27 : decode cX12_isLess 27 = .ok (.iconst 1, 1) := by decide +kernel
theorem dX12_isLess_28 : decode cX12_isLess 28 = .ok (.goto 4, 3) := by decide +kernel
theorem dX12_isLess_31 : decode cX12_isLess 31 = .ok (.iconst 0, 1) := by decide +kernel
theorem dX12_isLess_32 : decode cX12_isLess 32 = .ok (.ireturn, 1) := by decide +kernel
theorem dX12_areTwo_0 : decode cX12_areTwo 0 = .ok (.iload_n 1, 1) := by decide +kernel
theorem dX12_areTwo_1 : decode cX12_areTwo 1 = .ok (.iload_n 2, 1) := by decide +kernel
theorem dX12_areTwo_2 : decode cX12_areTwo 2 = .ok (.if_icmp .eq 29, 3) := by decide +kernel
theorem dX12_areTwo_5 : decode cX12_areTwo 5 = .ok (.aload_n 0, 1) := by decide +kernel
theorem dX12_areTwo_6 : decode cX12_areTwo 6 = .ok (.iload_n 1, 1) := by decide +kernel
theorem dX12_areTwo_7 : decode cX12_areTwo 7 = .ok (.iload_n 3, 1) := by decide +kernel
theorem dX12_areTwo_8 : decode cX12_areTwo 8 = .ok (.iload 4, 2) := by decide +kernel
theorem dX12_areTwo_10 : decode cX12_areTwo 10 = .ok (.invokevirtual 474, 3) := by decide +kernel
theorem dX12_areTwo_13 : decode cX12_areTwo 13 = .ok (.ifCond .eq 18, 3) := by decide +kernel
theorem dX12_areTwo_16 : decode cX12_areTwo 16 = .ok (.aload_n 0, 1) := by decide +kernel
theorem dX12_areTwo_17 : decode cX12_areTwo 17 = .ok (.iload_n 2, 1) := by decide +kernel
theorem dX12_areTwo_18 : decode cX12_areTwo 18 = .ok (.iload_n 3, 1) := by decide +kernel
theorem dX12_areTwo_19 : decode cX12_areTwo 19 = .ok (.iload 4, 2) := by decide +kernel
theorem dX12_areTwo_21 : decode cX12_areTwo 21 = .ok (.invokevirtual 474, 3) := by decide +kernel
theorem dX12_areTwo_24 : decode cX12_areTwo 24 = .ok (.ifCond .eq 7, 3) := by decide +kernel
theorem dX12_areTwo_27 : decode cX12_areTwo 27 = .ok (.iconst 1, 1) := by decide +kernel
theorem dX12_areTwo_28 : decode cX12_areTwo 28 = .ok (.goto 4, 3) := by decide +kernel
theorem dX12_areTwo_31 : decode cX12_areTwo 31 = .ok (.iconst 0, 1) := by decide +kernel
theorem dX12_areTwo_32 : decode cX12_areTwo 32 = .ok (.ireturn, 1) := by decide +kernel
theorem dX12_apart_0 : decode cX12_apart 0 = .ok (.aload_n 0, 1) := by decide +kernel
theorem dX12_apart_1 : decode cX12_apart 1 = .ok (.iconst 0, 1) := by decide +kernel
theorem dX12_apart_2 : decode cX12_apart 2 = .ok (.putfield 1, 3) := by decide +kernel
theorem dX12_apart_5 : decode cX12_apart 5 = .ok (.aload_n 0, 1) := by decide +kernel
theorem dX12_apart_6 : decode cX12_apart 6 = .ok (.iload_n 1, 1) := by decide +kernel
theorem dX12_apart_7 : decode cX12_apart 7 = .ok (.iload_n 2, 1) := by decide +kernel
theorem dX12_apart_8 : decode cX12_apart 8 = .ok (.iload_n 3, 1) := by decide +kernel
theorem dX12_apart_9 : decode cX12_apart 9 = .ok (.iload 4, 2) := by decide +kernel
theorem dX12_apart_11 : decode cX12_apart 11 = .ok (.invokevirtual 480, 3) := by decide +kernel
theorem dX12_apart_14 : decode cX12_apart 14 = .ok (.ifCond .ne 7, 3) := by decide +kernel
theorem dX12_apart_17 : decode cX12_apart 17 = .ok (.iconst (-1), 1) := by decide +kernel
theorem dX12_apart_18 : decode cX12_apart 18 = .ok (.goto 30, 3) := by decide +kernel
theorem dX12_apart_21 : decode cX12_apart 21 = .ok (.aload_n 0, 1) := by decide +kernel
theorem dX12_apart_22 : decode cX12_apart 22 = .ok (.iload_n 1, 1) := by decide +kernel
theorem dX12_apart_23 : decode cX12_apart 23 = .ok (.iload_n 2, 1) := by decide +kernel
theorem dX12_apart_24 : decode cX12_apart 24 = .ok (.invokevirtual 484, 3) := by decide +kernel
theorem dX12_apart_27 : decode cX12_apart 27 = .ok (.ifCond .eq 7, 3) := by decide +kernel
theorem dX12_apart_30 : decode cX12_apart 30 = .ok (.iconst 1, 1) := by decide +kernel
theorem dX12_apart_31 : decode cX12_apart 31 = .ok (.goto 17, 3) := by decide +kernel
theorem dX12_apart_34 : decode cX12_apart 34 = .ok (.aload_n 0, 1) := by decide +kernel
theorem dX12_apart_35 : decode cX12_apart 35 = .ok (.iload_n 2, 1) := by decide +kernel
theorem dX12_apart_36 : decode cX12_apart 36 = .ok (.iload_n 1, 1) := by decide +kernel
theorem dX12_apart_37 : decode cX12_apart 37 = .ok (.invokevirtual 484, 3) := by decide +kernel
theorem dX12_apart_40 : decode cX12_apart 40 = .ok (.ifCond .eq 7, 3) := by decide +kernel
theorem dX12_apart_43 : decode cX12_apart 43 = .ok (.iconst 2, 1) := by decide +kernel
theorem dX12_apart_44 : decode cX12_apart 44 = .ok (.goto 4, 3) := by decide +kernel
theorem dX12_apart_47 : decode cX12_apart 47 = .ok (.iconst 0, 1) := by decide +kernel
theorem dX12_apart_48 : decode cX12_apart 48 = .ok (.ireturn, 1) := by decide +kernel
theorem dX12_order_0 : decode cX12_order 0 = .ok (.aload_n 0, 1) := by decide +kernel
theorem dX12_order_1 : decode cX12_order 1 = .ok (.iconst 0, 1) := by decide +kernel
theorem dX12_order_2 : decode cX12_order 2 = .ok (.putfield 1, 3) := by decide +kernel
theorem dX12_order_5 : decode cX12_order 5 = .ok (.iload_n 1, 1) := by decide +kernel
theorem dX12_order_6 : decode cX12_order 6 = .ok (.iconst 0, 1) := by decide +kernel
theorem dX12_order_7 : decode cX12_order 7 = .ok (.iconst 3, 1) := by decide +kernel
theorem dX12_order_8 : decode cX12_order 8 = .ok (.invokestatic 358, 3) := by decide +kernel
theorem dX12_order_11 : decode cX12_order 11 = .ok (.ifCond .eq 21, 3) := by decide +kernel
theorem dX12_order_14 : decode cX12_order 14 = .ok (.iload_n 2, 1) := by decide +kernel
theorem dX12_order_15 : decode cX12_order 15 = .ok (.iload_n 3, 1) := by decide +kernel
theorem dX12_order_16 : decode cX12_order 16 = .ok (.invokestatic 468, 3) := by decide +kernel
theorem dX12_order_19 : decode cX12_order 19 = .ok (.ifCond .eq 13, 3) := by decide +kernel
theorem dX12_order_22 : decode cX12_order 22 = .ok (.iload 4, 2) := by decide +kernel
theorem dX12_order_24 : decode cX12_order 24 = .ok (.iconst 0, 1) := by decide +kernel
theorem dX12_order_25 : decode cX12_order 25 = .ok (.iconst 1, 1) := by decide +kernel
theorem dX12_order_26 : decode cX12_order 26 = .ok (.invokestatic 358, 3) := by decide +kernel
theorem dX12_order_29 : decode cX12_order 29 = .ok (.ifCond .ne 5, 3) := by decide +kernel
theorem dX12_order_32 : decode cX12_order 32 = .ok (.iconst (-1), 1) := by decide +kernel
theorem dX12_order_33 : decode cX12_order 33 = .ok (.ireturn, 1) := by decide +kernel
theorem dX12_order_34 : decode cX12_order 34 = .ok (.aload_n 0, 1) := by decide +kernel
theorem dX12_order_35 : decode cX12_order 35 = .ok (.iload_n 2, 1) := by decide +kernel
theorem dX12_order_36 : decode cX12_order 36 = .ok (.iload_n 3, 1) := by decide +kernel
theorem dX12_order_37 : decode cX12_order 37 = .ok (.invokevirtual 471, 3) := by decide +kernel
theorem dX12_order_40 : decode cX12_order 40 = .ok (.iconst 0, 1) := by decide +kernel
theorem dX12_order_41 : decode cX12_order 41 = .ok (.istore 5, 2) := by decide +kernel
theorem dX12_order_43 : decode cX12_order 43 = .ok (.iconst 0, 1) := by decide +kernel
theorem dX12_order_44 : decode cX12_order 44 = .ok (.istore 6, 2) := by decide +kernel
theorem dX12_order_46 : decode cX12_order 46 = .ok (.iconst 0, 1) := by decide +kernel
theorem dX12_order_47 : decode cX12_order 47 = .ok (.istore 7, 2) := by decide +kernel
theorem dX12_order_49 : decode cX12_order 49 = .ok (.iload 7, 2) := by decide +kernel
theorem dX12_order_51 : decode cX12_order 51 = .ok (.aload_n 0, 1) := by decide +kernel
theorem dX12_order_52 : decode cX12_order 52 = .ok (.getfield 366, 3) := by decide +kernel
theorem dX12_order_55 : decode cX12_order 55 = .ok (.if_icmp .ge 42, 3) := by decide +kernel
theorem dX12_order_58 : decode cX12_order 58 = .ok (.aload_n 0, 1) := by decide +kernel
theorem dX12_order_59 : decode cX12_order 59 = .ok (.getfield 197, 3) := by decide +kernel
theorem dX12_order_62 : decode cX12_order 62 = .ok (.iload 7, 2) := by decide +kernel
theorem dX12_order_64 : decode cX12_order 64 = .ok (.aload_n 0, 1) := by decide +kernel
theorem dX12_order_65 : decode cX12_order 65 = .ok (.getfield 115, 3) := by decide +kernel
theorem dX12_order_68 : decode cX12_order 68 = .ok (.iload 7, 2) := by decide +kernel
theorem dX12_order_70 : decode cX12_order 70 = .ok (.iaload, 1) := by decide +kernel
theorem dX12_order_71 : decode cX12_order 71 = .ok (.iload_n 1, 1) := by decide +kernel
theorem dX12_order_72 : decode cX12_order 72 = .ok (.if_icmp .ne 17, 3) := by decide +kernel
theorem dX12_order_75 : decode cX12_order 75 = .ok (.aload_n 0, 1) := by decide +kernel
theorem dX12_order_76 : decode cX12_order 76 = .ok (.getfield 194, 3) := by decide +kernel
theorem dX12_order_79 : decode cX12_order 79 = .ok (.iload 7, 2) := by decide +kernel
theorem dX12_order_81 : decode cX12_order 81 = .ok (.iaload, 1) := by decide +kernel
theorem dX12_order_82 : decode cX12_order 82 = .ok (.ifCond .le 7, 3) := by decide +kernel
theorem dX12_order_85 : decode cX12_order 85 = .ok (.iconst 1, 1) := by decide +kernel
theorem dX12_order_86 : decode cX12_order 86 = .ok (.goto 4, 3) := by decide +kernel
theorem dX12_order_89 : decode cX12_order 89 = .ok (.iconst 0, 1) := by decide +kernel
theorem dX12_order_90 : decode cX12_order 90 = .ok (.iastore, 1) := by decide +kernel
theorem dX12_order_91 : decode cX12_order 91 = .ok (.iinc 7 1, 3) := by decide +kernel
theorem dX12_order_94 : decode cX12_order 94 = .ok (.goto (-45), 3) := by decide +kernel
theorem dX12_order_97 : decode cX12_order 97 = .ok (.iconst 1, 1) := by decide +kernel
theorem dX12_order_98 : decode cX12_order 98 = .ok (.istore 7, 2) := by decide +kernel
theorem dX12_order_100 : decode cX12_order 100 = .ok (.iload 7, 2) := by decide +kernel
theorem dX12_order_102 : decode cX12_order 102 = .ok (.ifCond .eq 112, 3) := by decide +kernel
theorem dX12_order_105 : decode cX12_order 105 = .ok (.iconst 0, 1) := by decide +kernel
theorem dX12_order_106 : decode cX12_order 106 = .ok (.istore 7, 2) := by decide +kernel
theorem dX12_order_108 : decode cX12_order 108 = .ok (.iconst 0, 1) := by decide +kernel
theorem dX12_order_109 : decode cX12_order 109 = .ok (.istore 8, 2) := by decide +kernel
theorem dX12_order_111 : decode cX12_order 111 = .ok (.iload 8, 2) := by decide +kernel
theorem dX12_order_113 : decode cX12_order 113 = .ok (.aload_n 0, 1) := by decide +kernel
theorem dX12_order_114 : decode cX12_order 114 = .ok (.getfield 366, 3) := by decide +kernel
theorem dX12_order_117 : decode cX12_order 117 = .ok (.if_icmp .ge 94, 3) := by decide +kernel
theorem dX12_order_120 : decode cX12_order 120 = .ok (.iconst 0, 1) := by decide +kernel
theorem dX12_order_121 : decode cX12_order 121 = .ok (.istore 9, 2) := by decide +kernel
theorem dX12_order_123 : decode cX12_order 123 = .ok (.iload 9, 2) := by decide +kernel
theorem dX12_order_125 : decode cX12_order 125 = .ok (.aload_n 0, 1) := by decide +kernel
theorem dX12_order_126 : decode cX12_order 126 = .ok (.getfield 366, 3) := by decide +kernel
theorem dX12_order_129 : decode cX12_order 129 = .ok (.if_icmp .ge 76, 3) := by decide +kernel
theorem dX12_order_132 : decode cX12_order 132 = .ok (.aload_n 0, 1) := by decide +kernel
theorem dX12_order_133 : decode cX12_order 133 = .ok (.getfield 197, 3) := by decide +kernel
theorem dX12_order_136 : decode cX12_order 136 = .ok (.iload 8, 2) := by decide +kernel
theorem dX12_order_138 : decode cX12_order 138 = .ok (.iaload, 1) := by decide +kernel
theorem dX12_order_139 : decode cX12_order 139 = .ok (.ifCond .le 60, 3) := by decide +kernel
theorem dX12_order_142 : decode cX12_order 142 = .ok (.aload_n 0, 1) := by decide +kernel
theorem dX12_order_143 : decode cX12_order 143 = .ok (.getfield 197, 3) := by decide +kernel
theorem dX12_order_146 : decode cX12_order 146 = .ok (.iload 9, 2) := by decide +kernel
theorem dX12_order_148 : decode cX12_order 148 = .ok (.iaload, 1) := by decide +kernel
theorem dX12_order_149 : decode cX12_order 149 = .ok (.ifCond .le 50, 3) := by decide +kernel
theorem dX12_order_152 : decode cX12_order 152 = .ok (.aload_n 0, 1) := by decide +kernel
theorem dX12_order_153 : decode cX12_order 153 = .ok (.iload 8, 2) := by decide +kernel
theorem dX12_order_155 : decode cX12_order 155 = .ok (.iload 9, 2) := by decide +kernel
theorem dX12_order_157 : decode cX12_order 157 = .ok (.invokevirtual 484, 3) := by decide +kernel
theorem dX12_order_160 : decode cX12_order 160 = .ok (.ifCond .eq 39, 3) := by decide +kernel
theorem dX12_order_163 : decode cX12_order 163 = .ok (.aload_n 0, 1) := by decide +kernel
theorem dX12_order_164 : decode cX12_order 164 = .ok (.getfield 197, 3) := by decide +kernel
theorem dX12_order_167 : decode cX12_order 167 = .ok (.iload 9, 2) := by decide +kernel
theorem dX12_order_169 : decode cX12_order 169 = .ok (.iaload, 1) := by decide +kernel
theorem dX12_order_170 : decode cX12_order 170 = .ok (.aload_n 0, 1) := by decide +kernel
theorem dX12_order_171 : decode cX12_order 171 = .ok (.getfield 197, 3) := by decide +kernel
theorem dX12_order_174 : decode cX12_order 174 = .ok (.iload 8, 2) := by decide +kernel
theorem dX12_order_176 : decode cX12_order 176 = .ok (.iaload, 1) := by decide +kernel
theorem dX12_order_177 : decode cX12_order 177 = .ok (.if_icmp .gt 22, 3) := by decide +kernel
theorem dX12_order_180 : decode cX12_order 180 = .ok (.aload_n 0, 1) := by decide +kernel
theorem dX12_order_181 : decode cX12_order 181 = .ok (.getfield 197, 3) := by decide +kernel
theorem dX12_order_184 : decode cX12_order 184 = .ok (.iload 9, 2) := by decide +kernel
theorem dX12_order_186 : decode cX12_order 186 = .ok (.aload_n 0, 1) := by decide +kernel
theorem dX12_order_187 : decode cX12_order 187 = .ok (.getfield 197, 3) := by decide +kernel
theorem dX12_order_190 : decode cX12_order 190 = .ok (.iload 8, 2) := by decide +kernel
theorem dX12_order_192 : decode cX12_order 192 = .ok (.iaload, 1) := by decide +kernel
theorem dX12_order_193 : decode cX12_order 193 = .ok (.iconst 1, 1) := by decide +kernel
theorem dX12_order_194 : decode cX12_order 194 = .ok (.iadd, 1) := by decide +kernel
theorem dX12_order_195 : decode cX12_order 195 = .ok (.iastore, 1) := by decide +kernel
theorem dX12_order_196 : decode cX12_order 196 = .ok (.iconst 1, 1) := by decide +kernel
theorem dX12_order_197 : decode cX12_order 197 = .ok (.istore 7, 2) := by decide +kernel
theorem dX12_order_199 : decode cX12_order 199 = .ok (.iinc 9 1, 3) := by decide +kernel
theorem dX12_order_202 : decode cX12_order 202 = .ok (.goto (-79), 3) := by decide +kernel
theorem dX12_order_205 : decode cX12_order 205 = .ok (.iinc 8 1, 3) := by decide +kernel
theorem dX12_order_208 : decode cX12_order 208 = .ok (.goto (-97), 3) := by decide +kernel
theorem dX12_order_211 : decode cX12_order 211 = .ok (.goto (-111), 3) := by decide +kernel
theorem dX12_order_214 : decode cX12_order 214 = .ok (.iconst 0, 1) := by decide +kernel
theorem dX12_order_215 : decode cX12_order 215 = .ok (.istore 8, 2) := by decide +kernel
theorem dX12_order_217 : decode cX12_order 217 = .ok (.iload 8, 2) := by decide +kernel
theorem dX12_order_219 : decode cX12_order 219 = .ok (.aload_n 0, 1) := by decide +kernel
theorem dX12_order_220 : decode cX12_order 220 = .ok (.getfield 366, 3) := by decide +kernel
theorem dX12_order_223 : decode cX12_order 223 = .ok (.if_icmp .ge 121, 3) := by decide +kernel
theorem dX12_order_226 : decode cX12_order 226 = .ok (.aload_n 0, 1) := by decide +kernel
theorem dX12_order_227 : decode cX12_order 227 = .ok (.getfield 197, 3) := by decide +kernel
theorem dX12_order_230 : decode cX12_order 230 = .ok (.iload 8, 2) := by decide +kernel
theorem dX12_order_232 : decode cX12_order 232 = .ok (.iaload, 1) := by decide +kernel
theorem dX12_order_233 : decode cX12_order 233 = .ok (.ifCond .le 7, 3) := by decide +kernel
theorem dX12_order_236 : decode cX12_order 236 = .ok (.iconst 1, 1) := by decide +kernel
theorem dX12_order_237 : decode cX12_order 237 = .ok (.goto 4, 3) := by decide +kernel
theorem dX12_order_240 : decode cX12_order 240 = .ok (.iconst 0, 1) := by decide +kernel
theorem dX12_order_241 : decode cX12_order 241 = .ok (.istore 9, 2) := by decide +kernel
theorem dX12_order_243 : decode cX12_order 243 = .ok (.iconst 0, 1) := by decide +kernel
theorem dX12_order_244 : decode cX12_order 244 = .ok (.istore 10, 2) := by decide +kernel
theorem dX12_order_246 : decode cX12_order 246 = .ok (.iload 10, 2) := by decide +kernel
theorem dX12_order_248 : decode cX12_order 248 = .ok (.aload_n 0, 1) := by decide +kernel
theorem dX12_order_249 : decode cX12_order 249 = .ok (.getfield 366, 3) := by decide +kernel
theorem dX12_order_252 : decode cX12_order 252 = .ok (.if_icmp .ge 42, 3) := by decide +kernel
theorem dX12_order_255 : decode cX12_order 255 = .ok (.iload 9, 2) := by decide +kernel
theorem dX12_order_257 : decode cX12_order 257 = .ok (.ifCond .eq 37, 3) := by decide +kernel
theorem dX12_order_260 : decode cX12_order 260 = .ok (.aload_n 0, 1) := by decide +kernel
theorem dX12_order_261 : decode cX12_order 261 = .ok (.getfield 197, 3) := by decide +kernel
theorem dX12_order_264 : decode cX12_order 264 = .ok (.iload 10, 2) := by decide +kernel
theorem dX12_order_266 : decode cX12_order 266 = .ok (.iaload, 1) := by decide +kernel
theorem dX12_order_267 : decode cX12_order 267 = .ok (.ifCond .eq 14, 3) := by decide +kernel
theorem dX12_order_270 : decode cX12_order 270 = .ok (.aload_n 0, 1) := by decide +kernel
theorem dX12_order_271 : decode cX12_order 271 = .ok (.iload 8, 2) := by decide +kernel
theorem dX12_order_273 : decode cX12_order 273 = .ok (.iload 10, 2) := by decide +kernel
theorem dX12_order_275 : decode cX12_order 275 = .ok (.invokevirtual 484, 3) := by decide +kernel
theorem dX12_order_278 : decode cX12_order 278 = .ok (.ifCond .ne 7, 3) := by decide +kernel
theorem dX12_order_281 : decode cX12_order 281 = .ok (.iconst 1, 1) := by decide +kernel
theorem dX12_order_282 : decode cX12_order 282 = .ok (.goto 4, 3) := by decide +kernel
theorem dX12_order_285 : decode cX12_order 285 = .ok (.iconst 0, 1) := by decide +kernel
theorem dX12_order_286 : decode cX12_order 286 = .ok (.istore 9, 2) := by decide +kernel
theorem dX12_order_288 : decode cX12_order 288 = .ok (.iinc 10 1, 3) := by decide +kernel
theorem dX12_order_291 : decode cX12_order 291 = .ok (.goto (-45), 3) := by decide +kernel
theorem dX12_order_294 : decode cX12_order 294 = .ok (.aload_n 0, 1) := by decide +kernel
theorem dX12_order_295 : decode cX12_order 295 = .ok (.getfield 197, 3) := by decide +kernel
theorem dX12_order_298 : decode cX12_order 298 = .ok (.iload 8, 2) := by decide +kernel
theorem dX12_order_300 : decode cX12_order 300 = .ok (.iaload, 1) := by decide +kernel
theorem dX12_order_301 : decode cX12_order 301 = .ok (.iload 5, 2) := by decide +kernel
theorem dX12_order_303 : decode cX12_order 303 = .ok (.if_icmp .le 13, 3) := by decide +kernel
theorem dX12_order_306 : decode cX12_order 306 = .ok (.aload_n 0, 1) := by decide +kernel
theorem dX12_order_307 : decode cX12_order 307 = .ok (.getfield 197, 3) := by decide +kernel
theorem dX12_order_310 : decode cX12_order 310 = .ok (.iload 8, 2) := by decide +kernel
theorem dX12_order_312 : decode cX12_order 312 = .ok (.iaload, 1) := by decide +kernel
theorem dX12_order_313 : decode cX12_order 313 = .ok (.goto 5, 3) := by decide +kernel
theorem dX12_order_316 : decode cX12_order 316 = .ok (.iload 5, 2) := by decide +kernel
theorem dX12_order_318 : decode cX12_order 318 = .ok (.istore 5, 2) := by decide +kernel
theorem dX12_order_320 : decode cX12_order 320 = .ok (.iload 6, 2) := by decide +kernel
theorem dX12_order_322 : decode cX12_order 322 = .ok (.iload 9, 2) := by decide +kernel
theorem dX12_order_324 : decode cX12_order 324 = .ok (.ifCond .eq 10, 3) := by decide +kernel
theorem dX12_order_327 : decode cX12_order 327 = .ok (.iconst 1, 1) := by decide +kernel
theorem dX12_order_328 : decode cX12_order 328 = .ok (.iload 8, 2) := by decide +kernel
theorem dX12_order_330 : decode cX12_order 330 = .ok (.ishl, 1) := by decide +kernel
theorem dX12_order_331 : decode cX12_order 331 = .ok (.goto 4, 3) := by decide +kernel
theorem dX12_order_334 : decode cX12_order 334 = .ok (.iconst 0, 1) := by decide +kernel
theorem dX12_order_335 : decode cX12_order 335 = .ok (.ior, 1) := by decide +kernel
theorem dX12_order_336 : decode cX12_order 336 = .ok (.istore 6, 2) := by decide +kernel
theorem dX12_order_338 : decode cX12_order 338 = .ok (.iinc 8 1, 3) := by decide +kernel
theorem dX12_order_341 : decode cX12_order 341 = .ok (.goto (-124), 3) := by decide +kernel
theorem dX12_order_344 : decode cX12_order 344 = .ok (.iload 5, 2) := by decide +kernel
theorem dX12_order_346 : decode cX12_order 346 = .ok (.ifCond .ne 7, 3) := by decide +kernel
theorem dX12_order_349 : decode cX12_order 349 = .ok (.iconst (-1), 1) := by decide +kernel
theorem dX12_order_350 : decode cX12_order 350 = .ok (.goto 15, 3) := by decide +kernel
theorem dX12_order_353 : decode cX12_order 353 = .ok (.iload 4, 2) := by decide +kernel
theorem dX12_order_355 : decode cX12_order 355 = .ok (.ifCond .ne 8, 3) := by decide +kernel
theorem dX12_order_358 : decode cX12_order 358 = .ok (.iload 5, 2) := by decide +kernel
theorem dX12_order_360 : decode cX12_order 360 = .ok (.goto 5, 3) := by decide +kernel
theorem dX12_order_363 : decode cX12_order 363 = .ok (.iload 6, 2) := by decide +kernel
theorem dX12_order_365 : decode cX12_order 365 = .ok (.ireturn, 1) := by decide +kernel
theorem dX12_enough_0 : decode cX12_enough 0 = .ok (.aload_n 0, 1) := by decide +kernel
theorem dX12_enough_1 : decode cX12_enough 1 = .ok (.iconst 0, 1) := by decide +kernel
theorem dX12_enough_2 : decode cX12_enough 2 = .ok (.putfield 1, 3) := by decide +kernel
theorem dX12_enough_5 : decode cX12_enough 5 = .ok (.aload_n 0, 1) := by decide +kernel
theorem dX12_enough_6 : decode cX12_enough 6 = .ok (.iload_n 1, 1) := by decide +kernel
theorem dX12_enough_7 : decode cX12_enough 7 = .ok (.iload_n 2, 1) := by decide +kernel
theorem dX12_enough_8 : decode cX12_enough 8 = .ok (.iload_n 3, 1) := by decide +kernel
theorem dX12_enough_9 : decode cX12_enough 9 = .ok (.iload 4, 2) := by decide +kernel
theorem dX12_enough_11 : decode cX12_enough 11 = .ok (.invokevirtual 480, 3) := by decide +kernel
theorem dX12_enough_14 : decode cX12_enough 14 = .ok (.ifCond .ne 5, 3) := by decide +kernel
theorem dX12_enough_17 : decode cX12_enough 17 = .ok (.iconst (-1), 1) := by decide +kernel
theorem dX12_enough_18 : decode cX12_enough 18 = .ok (.ireturn, 1) := by decide +kernel
theorem dX12_enough_19 : decode cX12_enough 19 = .ok (.aload_n 0, 1) := by decide +kernel
theorem dX12_enough_20 : decode cX12_enough 20 = .ok (.getfield 191, 3) := by decide +kernel
theorem dX12_enough_23 : decode cX12_enough 23 = .ok (.iload_n 1, 1) := by decide +kernel
theorem dX12_enough_24 : decode cX12_enough 24 = .ok (.iaload, 1) := by decide +kernel
theorem dX12_enough_25 : decode cX12_enough 25 = .ok (.aload_n 0, 1) := by decide +kernel
theorem dX12_enough_26 : decode cX12_enough 26 = .ok (.getfield 191, 3) := by decide +kernel
theorem dX12_enough_29 : decode cX12_enough 29 = .ok (.iload_n 2, 1) := by decide +kernel
theorem dX12_enough_30 : decode cX12_enough 30 = .ok (.iaload, 1) := by decide +kernel
theorem dX12_enough_31 : decode cX12_enough 31 = .ok (.if_icmp .ge 19, 3) := by decide +kernel
theorem dX12_enough_34 : decode cX12_enough 34 = .ok (.aload_n 0, 1) := by decide +kernel
theorem dX12_enough_35 : decode cX12_enough 35 = .ok (.getfield 191, 3) := by decide +kernel
theorem dX12_enough_38 : decode cX12_enough 38 = .ok (.iload_n 2, 1) := by decide +kernel
theorem dX12_enough_39 : decode cX12_enough 39 = .ok (.iaload, 1) := by decide +kernel
theorem dX12_enough_40 : decode cX12_enough 40 = .ok (.aload_n 0, 1) := by decide +kernel
theorem dX12_enough_41 : decode cX12_enough 41 = .ok (.getfield 191, 3) := by decide +kernel
theorem dX12_enough_44 : decode cX12_enough 44 = .ok (.iload_n 1, 1) := by decide +kernel
theorem dX12_enough_45 : decode cX12_enough 45 = .ok (.iaload, 1) := by decide +kernel
theorem dX12_enough_46 : decode cX12_enough 46 = .ok (.isub, 1) := by decide +kernel
theorem dX12_enough_47 : decode cX12_enough 47 = .ok (.goto 16, 3) := by decide +kernel
theorem dX12_enough_50 : decode cX12_enough 50 = .ok (.aload_n 0, 1) := by decide +kernel
theorem dX12_enough_51 : decode cX12_enough 51 = .ok (.getfield 191, 3) := by decide +kernel
theorem dX12_enough_54 : decode cX12_enough 54 = .ok (.iload_n 1, 1) := by decide +kernel
theorem dX12_enough_55 : decode cX12_enough 55 = .ok (.iaload, 1) := by decide +kernel
theorem dX12_enough_56 : decode cX12_enough 56 = .ok (.aload_n 0, 1) := by decide +kernel
theorem dX12_enough_57 : decode cX12_enough 57 = .ok (.getfield 191, 3) := by decide +kernel
theorem dX12_enough_60 : decode cX12_enough 60 = .ok (.iload_n 2, 1) := by decide +kernel
theorem dX12_enough_61 : decode cX12_enough 61 = .ok (.iaload, 1) := by decide +kernel
theorem dX12_enough_62 : decode cX12_enough 62 = .ok (.isub, 1) := by decide +kernel
theorem dX12_enough_63 : decode cX12_enough 63 = .ok (.istore 5, 2) := by decide +kernel
theorem dX12_enough_65 : decode cX12_enough 65 = .ok (.iconst 1, 1) := by decide +kernel
theorem dX12_enough_66 : decode cX12_enough 66 = .ok (.istore 6, 2) := by decide +kernel
theorem dX12_enough_68 : decode cX12_enough 68 = .ok (.iload 6, 2) := by decide +kernel
theorem dX12_enough_70 : decode cX12_enough 70 = .ok (.sipush 999, 3) := by decide +kernel
theorem dX12_enough_73 : decode cX12_enough 73 = .ok (.if_icmp .gt 29, 3) := by decide +kernel
theorem dX12_enough_76 : decode cX12_enough 76 = .ok (.iload 5, 2) := by decide +kernel
theorem dX12_enough_78 : decode cX12_enough 78 = .ok (.iconst 2, 1) := by decide +kernel
theorem dX12_enough_79 : decode cX12_enough 79 = .ok (.bipush 100, 2) := by decide +kernel
theorem dX12_enough_81 : decode cX12_enough 81 = .ok (.aload_n 0, 1) := by decide +kernel
theorem dX12_enough_82 : decode cX12_enough 82 = .ok (.getfield 225, 3) := by decide +kernel
theorem dX12_enough_85 : decode cX12_enough 85 = .ok (.imul, 1) := by decide +kernel
theorem dX12_enough_86 : decode cX12_enough 86 = .ok (.iload 6, 2) := by decide +kernel
theorem dX12_enough_88 : decode cX12_enough 88 = .ok (.idiv, 1) := by decide +kernel
theorem dX12_enough_89 : decode cX12_enough 89 = .ok (.imul, 1) := by decide +kernel
theorem dX12_enough_90 : decode cX12_enough 90 = .ok (.if_icmp .le 6, 3) := by decide +kernel
theorem dX12_enough_93 : decode cX12_enough 93 = .ok (.iload 6, 2) := by decide +kernel
theorem dX12_enough_95 : decode cX12_enough 95 = .ok (.ireturn, 1) := by decide +kernel
theorem dX12_enough_96 : decode cX12_enough 96 = .ok (.iinc 6 1, 3) := by decide +kernel
theorem dX12_enough_99 : decode cX12_enough 99 = .ok (.goto (-31), 3) := by decide +kernel
theorem dX12_enough_102 : decode cX12_enough 102 = .ok (.iconst (-1), 1) := by decide +kernel
theorem dX12_enough_103 : decode cX12_enough 103 = .ok (.ireturn, 1) := by decide +kernel
theorem dX12_mayGo_0 : decode cX12_mayGo 0 = .ok (.aload_n 0, 1) := by decide +kernel
theorem dX12_mayGo_1 : decode cX12_mayGo 1 = .ok (.getfield 128, 3) := by decide +kernel
theorem dX12_mayGo_4 : decode cX12_mayGo 4 = .ok (.iload_n 1, 1) := by decide +kernel
theorem dX12_mayGo_5 : decode cX12_mayGo 5 = .ok (.iaload, 1) := by decide +kernel
theorem dX12_mayGo_6 : decode cX12_mayGo 6 = .ok (.aload_n 0, 1) := by decide +kernel
theorem dX12_mayGo_7 : decode cX12_mayGo 7 = .ok (.getfield 131, 3) := by decide +kernel
theorem dX12_mayGo_10 : decode cX12_mayGo 10 = .ok (.iload_n 1, 1) := by decide +kernel
theorem dX12_mayGo_11 : decode cX12_mayGo 11 = .ok (.iaload, 1) := by decide +kernel
theorem dX12_mayGo_12 : decode cX12_mayGo 12 = .ok (.aload_n 0, 1) := by decide +kernel
theorem dX12_mayGo_13 : decode cX12_mayGo 13 = .ok (.getfield 109, 3) := by decide +kernel
theorem dX12_mayGo_16 : decode cX12_mayGo 16 = .ok (.iload_n 2, 1) := by decide +kernel
theorem dX12_mayGo_17 : decode cX12_mayGo 17 = .ok (.iaload, 1) := by decide +kernel
theorem dX12_mayGo_18 : decode cX12_mayGo 18 = .ok (.aload_n 0, 1) := by decide +kernel
theorem dX12_mayGo_19 : decode cX12_mayGo 19 = .ok (.getfield 112, 3) := by decide +kernel
theorem dX12_mayGo_22 : decode cX12_mayGo 22 = .ok (.iload_n 2, 1) := by decide +kernel
theorem dX12_mayGo_23 : decode cX12_mayGo 23 = .ok (.iaload, 1) := by decide +kernel
theorem dX12_mayGo_24 : decode cX12_mayGo 24 = .ok (.invokestatic 431, 3) := by decide +kernel
theorem dX12_mayGo_27 : decode cX12_mayGo 27 = .ok (.aload_n 0, 1) := by decide +kernel
theorem dX12_mayGo_28 : decode cX12_mayGo 28 = .ok (.getfield 231, 3) := by decide +kernel
theorem dX12_mayGo_31 : decode cX12_mayGo 31 = .ok (.if_icmp .gt 7, 3) := by decide +kernel
theorem dX12_mayGo_34 : decode cX12_mayGo 34 = .ok (.iconst 1, 1) := by decide +kernel
theorem dX12_mayGo_35 : decode cX12_mayGo 35 = .ok (.goto 4, 3) := by decide +kernel
theorem dX12_mayGo_38 : decode cX12_mayGo 38 = .ok (.iconst 0, 1) := by decide +kernel
theorem dX12_mayGo_39 : decode cX12_mayGo 39 = .ok (.istore 4, 2) := by decide +kernel
theorem dX12_mayGo_41 : decode cX12_mayGo 41 = .ok (.iconst 0, 1) := by decide +kernel
theorem dX12_mayGo_42 : decode cX12_mayGo 42 = .ok (.istore 5, 2) := by decide +kernel
theorem dX12_mayGo_44 : decode cX12_mayGo 44 = .ok (.iload 5, 2) := by decide +kernel
theorem dX12_mayGo_46 : decode cX12_mayGo 46 = .ok (.aload_n 0, 1) := by decide +kernel
theorem dX12_mayGo_47 : decode cX12_mayGo 47 = .ok (.getfield 372, 3) := by decide +kernel
theorem dX12_mayGo_50 : decode cX12_mayGo 50 = .ok (.if_icmp .ge 139, 3) := by decide +kernel
theorem dX12_mayGo_53 : decode cX12_mayGo 53 = .ok (.iload 4, 2) := by decide +kernel
theorem dX12_mayGo_55 : decode cX12_mayGo 55 = .ok (.ifCond .eq 134, 3) := by decide +kernel
theorem dX12_mayGo_58 : decode cX12_mayGo 58 = .ok (.aload_n 0, 1) := by decide +kernel
theorem dX12_mayGo_59 : decode cX12_mayGo 59 = .ok (.getfield 140, 3) := by decide +kernel
theorem dX12_mayGo_62 : decode cX12_mayGo 62 = .ok (.iload 5, 2) := by decide +kernel
theorem dX12_mayGo_64 : decode cX12_mayGo 64 = .ok (.iaload, 1) := by decide +kernel
theorem dX12_mayGo_65 : decode cX12_mayGo 65 = .ok (.iload_n 3, 1) := by decide +kernel
theorem dX12_mayGo_66 : decode cX12_mayGo 66 = .ok (.if_icmp .ge 15, 3) := by decide +kernel
theorem dX12_mayGo_69 : decode cX12_mayGo 69 = .ok (.iload_n 3, 1) := by decide +kernel
theorem dX12_mayGo_70 : decode cX12_mayGo 70 = .ok (.aload_n 0, 1) := by decide +kernel
theorem dX12_mayGo_71 : decode cX12_mayGo 71 = .ok (.getfield 140, 3) := by decide +kernel
theorem dX12_mayGo_74 : decode cX12_mayGo 74 = .ok (.iload 5, 2) := by decide +kernel
theorem dX12_mayGo_76 : decode cX12_mayGo 76 = .ok (.iaload, 1) := by decide +kernel
theorem dX12_mayGo_77 : decode cX12_mayGo 77 = .ok (.isub, 1) := by decide +kernel
theorem dX12_mayGo_78 : decode cX12_mayGo 78 = .ok (.goto 12, 3) := by decide +kernel
theorem dX12_mayGo_81 : decode cX12_mayGo 81 = .ok (.aload_n 0, 1) := by decide +kernel
theorem dX12_mayGo_82 : decode cX12_mayGo 82 = .ok (.getfield 140, 3) := by decide +kernel
theorem dX12_mayGo_85 : decode cX12_mayGo 85 = .ok (.iload 5, 2) := by decide +kernel
theorem dX12_mayGo_87 : decode cX12_mayGo 87 = .ok (.iaload, 1) := by decide +kernel
theorem dX12_mayGo_88 : decode cX12_mayGo 88 = .ok (.iload_n 3, 1) := by decide +kernel
theorem dX12_mayGo_89 : decode cX12_mayGo 89 = .ok (.isub, 1) := by decide +kernel
theorem dX12_mayGo_90 : decode cX12_mayGo 90 = .ok (.istore 6, 2) := by decide +kernel
theorem dX12_mayGo_92 : decode cX12_mayGo 92 = .ok (.aload_n 0, 1) := by decide +kernel
theorem dX12_mayGo_93 : decode cX12_mayGo 93 = .ok (.getfield 134, 3) := by decide +kernel
theorem dX12_mayGo_96 : decode cX12_mayGo 96 = .ok (.iload 5, 2) := by decide +kernel
theorem dX12_mayGo_98 : decode cX12_mayGo 98 = .ok (.iaload, 1) := by decide +kernel
theorem dX12_mayGo_99 : decode cX12_mayGo 99 = .ok (.iload_n 2, 1) := by decide +kernel
theorem dX12_mayGo_100 : decode cX12_mayGo 100 = .ok (.if_icmp .ne 12, 3) := by decide +kernel
theorem dX12_mayGo_103 : decode cX12_mayGo 103 = .ok (.iload 6, 2) := by decide +kernel
theorem dX12_mayGo_105 : decode cX12_mayGo 105 = .ok (.aload_n 0, 1) := by decide +kernel
theorem dX12_mayGo_106 : decode cX12_mayGo 106 = .ok (.getfield 228, 3) := by decide +kernel
theorem dX12_mayGo_109 : decode cX12_mayGo 109 = .ok (.if_icmp .lt 35, 3) := by decide +kernel
theorem dX12_mayGo_112 : decode cX12_mayGo 112 = .ok (.aload_n 0, 1) := by decide +kernel
theorem dX12_mayGo_113 : decode cX12_mayGo 113 = .ok (.getfield 115, 3) := by decide +kernel
theorem dX12_mayGo_116 : decode cX12_mayGo 116 = .ok (.aload_n 0, 1) := by decide +kernel
theorem dX12_mayGo_117 : decode cX12_mayGo 117 = .ok (.getfield 134, 3) := by decide +kernel
theorem dX12_mayGo_120 : decode cX12_mayGo 120 = .ok (.iload 5, 2) := by decide +kernel
theorem dX12_mayGo_122 : decode cX12_mayGo 122 = .ok (.iaload, 1) := by decide +kernel
theorem dX12_mayGo_123 : decode cX12_mayGo 123 = .ok (.iaload, 1) := by decide +kernel
theorem dX12_mayGo_124 : decode cX12_mayGo 124 = .ok (.aload_n 0, 1) := by decide +kernel
theorem dX12_mayGo_125 : decode cX12_mayGo 125 = .ok (.getfield 115, 3) := by decide +kernel
theorem dX12_mayGo_128 : decode cX12_mayGo 128 = .ok (.iload_n 2, 1) := by decide +kernel
theorem dX12_mayGo_129 : decode cX12_mayGo 129 = .ok (.iaload, 1) := by decide +kernel
theorem dX12_mayGo_130 : decode cX12_mayGo 130 = .ok (.if_icmp .ne 18, 3) := by decide +kernel
theorem dX12_mayGo_133 : decode cX12_mayGo 133 = .ok (.iload 6, 2) := by decide +kernel
theorem dX12_mayGo_135 : decode cX12_mayGo 135 = .ok (.aload_n 0, 1) := by decide +kernel
theorem dX12_mayGo_136 : decode cX12_mayGo 136 = .ok (.getfield 228, 3) := by decide +kernel
theorem dX12_mayGo_139 : decode cX12_mayGo 139 = .ok (.iconst 4, 1) := by decide +kernel
theorem dX12_mayGo_140 : decode cX12_mayGo 140 = .ok (.idiv, 1) := by decide +kernel
theorem dX12_mayGo_141 : decode cX12_mayGo 141 = .ok (.if_icmp .ge 7, 3) := by decide +kernel
theorem dX12_mayGo_144 : decode cX12_mayGo 144 = .ok (.iconst 1, 1) := by decide +kernel
theorem dX12_mayGo_145 : decode cX12_mayGo 145 = .ok (.goto 4, 3) := by decide +kernel
theorem dX12_mayGo_148 : decode cX12_mayGo 148 = .ok (.iconst 0, 1) := by decide +kernel
theorem dX12_mayGo_149 : decode cX12_mayGo 149 = .ok (.istore 7, 2) := by decide +kernel
theorem dX12_mayGo_151 : decode cX12_mayGo 151 = .ok (.aload_n 0, 1) := by decide +kernel
theorem dX12_mayGo_152 : decode cX12_mayGo 152 = .ok (.iload 5, 2) := by decide +kernel
theorem dX12_mayGo_154 : decode cX12_mayGo 154 = .ok (.invokevirtual 394, 3) := by decide +kernel
theorem dX12_mayGo_157 : decode cX12_mayGo 157 = .ok (.ifCond .eq 19, 3) := by decide +kernel
theorem dX12_mayGo_160 : decode cX12_mayGo 160 = .ok (.aload_n 0, 1) := by decide +kernel
theorem dX12_mayGo_161 : decode cX12_mayGo 161 = .ok (.getfield 137, 3) := by decide +kernel
theorem dX12_mayGo_164 : decode cX12_mayGo 164 = .ok (.iload 5, 2) := by decide +kernel
theorem dX12_mayGo_166 : decode cX12_mayGo 166 = .ok (.iaload, 1) := by decide +kernel
theorem dX12_mayGo_167 : decode cX12_mayGo 167 = .ok (.iload_n 1, 1) := by decide +kernel
theorem dX12_mayGo_168 : decode cX12_mayGo 168 = .ok (.if_icmp .ne 8, 3) := by decide +kernel
theorem dX12_mayGo_171 : decode cX12_mayGo 171 = .ok (.iload 7, 2) := by decide +kernel
theorem dX12_mayGo_173 : decode cX12_mayGo 173 = .ok (.ifCond .ne 7, 3) := by decide +kernel
theorem dX12_mayGo_176 : decode cX12_mayGo 176 = .ok (.iconst 1, 1) := by decide +kernel
theorem dX12_mayGo_177 : decode cX12_mayGo 177 = .ok (.goto 4, 3) := by decide +kernel
theorem dX12_mayGo_180 : decode cX12_mayGo 180 = .ok (.iconst 0, 1) := by decide +kernel
theorem dX12_mayGo_181 : decode cX12_mayGo 181 = .ok (.istore 4, 2) := by decide +kernel
theorem dX12_mayGo_183 : decode cX12_mayGo 183 = .ok (.iinc 5 1, 3) := by decide +kernel
theorem dX12_mayGo_186 : decode cX12_mayGo 186 = .ok (.goto (-142), 3) := by decide +kernel
theorem dX12_mayGo_189 : decode cX12_mayGo 189 = .ok (.iload 4, 2) := by decide +kernel
theorem dX12_mayGo_191 : decode cX12_mayGo 191 = .ok (.ireturn, 1) := by decide +kernel
theorem dX12_may_0 : decode cX12_may 0 = .ok (.aload_n 0, 1) := by decide +kernel
theorem dX12_may_1 : decode cX12_may 1 = .ok (.iconst 0, 1) := by decide +kernel
theorem dX12_may_2 : decode cX12_may 2 = .ok (.putfield 1, 3) := by decide +kernel
theorem dX12_may_5 : decode cX12_may 5 = .ok (.aload_n 0, 1) := by decide +kernel
theorem dX12_may_6 : decode cX12_may 6 = .ok (.iload_n 1, 1) := by decide +kernel
theorem dX12_may_7 : decode cX12_may 7 = .ok (.invokevirtual 378, 3) := by decide +kernel
theorem dX12_may_10 : decode cX12_may 10 = .ok (.ifCond .eq 18, 3) := by decide +kernel
theorem dX12_may_13 : decode cX12_may 13 = .ok (.aload_n 0, 1) := by decide +kernel
theorem dX12_may_14 : decode cX12_may 14 = .ok (.iload_n 2, 1) := by decide +kernel
theorem dX12_may_15 : decode cX12_may 15 = .ok (.invokevirtual 375, 3) := by decide +kernel
theorem dX12_may_18 : decode cX12_may 18 = .ok (.ifCond .eq 10, 3) := by decide +kernel
theorem dX12_may_21 : decode cX12_may 21 = .ok (.iload_n 3, 1) := by decide +kernel
theorem dX12_may_22 : decode cX12_may 22 = .ok (.invokestatic 456, 3) := by decide +kernel
theorem dX12_may_25 : decode cX12_may 25 = .ok (.ifCond .ne 7, 3) := by decide +kernel
theorem dX12_may_28 : decode cX12_may 28 = .ok (.iconst (-1), 1) := by decide +kernel
theorem dX12_may_29 : decode cX12_may 29 = .ok (.goto 18, 3) := by decide +kernel
theorem dX12_may_32 : decode cX12_may 32 = .ok (.aload_n 0, 1) := by decide +kernel
theorem dX12_may_33 : decode cX12_may 33 = .ok (.iload_n 1, 1) := by decide +kernel
theorem dX12_may_34 : decode cX12_may 34 = .ok (.iload_n 2, 1) := by decide +kernel
theorem dX12_may_35 : decode cX12_may 35 = .ok (.iload_n 3, 1) := by decide +kernel
theorem dX12_may_36 : decode cX12_may 36 = .ok (.invokevirtual 487, 3) := by decide +kernel
theorem dX12_may_39 : decode cX12_may 39 = .ok (.ifCond .eq 7, 3) := by decide +kernel
theorem dX12_may_42 : decode cX12_may 42 = .ok (.iconst 1, 1) := by decide +kernel
theorem dX12_may_43 : decode cX12_may 43 = .ok (.goto 4, 3) := by decide +kernel
theorem dX12_may_46 : decode cX12_may 46 = .ok (.iconst 0, 1) := by decide +kernel
theorem dX12_may_47 : decode cX12_may 47 = .ok (.ireturn, 1) := by decide +kernel
theorem dX12_wayOf_0 : decode cX12_wayOf 0 = .ok (.aload_n 0, 1) := by decide +kernel
theorem dX12_wayOf_1 : decode cX12_wayOf 1 = .ok (.getfield 128, 3) := by decide +kernel
theorem dX12_wayOf_4 : decode cX12_wayOf 4 = .ok (.iload_n 1, 1) := by decide +kernel
theorem dX12_wayOf_5 : decode cX12_wayOf 5 = .ok (.iaload, 1) := by decide +kernel
theorem dX12_wayOf_6 : decode cX12_wayOf 6 = .ok (.aload_n 0, 1) := by decide +kernel
