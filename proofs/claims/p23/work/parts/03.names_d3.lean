theorem dX11_hasMean_11 : decode cX11_hasMean 11 = .ok (.iload_n 2, 1) := by decide +kernel
theorem dX11_hasMean_12 : decode cX11_hasMean 12 = .ok (.iload_n 3, 1) := by decide +kernel
theorem dX11_hasMean_13 : decode cX11_hasMean 13 = .ok (.invokestatic 285, 3) := by decide +kernel
theorem dX11_hasMean_16 : decode cX11_hasMean 16 = .ok (.ifCond .ne 5, 3) := by decide +kernel
theorem dX11_hasMean_19 : decode cX11_hasMean 19 = .ok (.iconst 0, 1) := by decide +kernel
theorem dX11_hasMean_20 : decode cX11_hasMean 20 = .ok (.ireturn, 1) := by decide +kernel
theorem dX11_hasMean_21 : decode cX11_hasMean 21 = .ok (.aload_n 0, 1) := by decide +kernel
theorem dX11_hasMean_22 : decode cX11_hasMean 22 = .ok (.getfield 53, 3) := by decide +kernel
theorem dX11_hasMean_25 : decode cX11_hasMean 25 = .ok (.iload_n 2, 1) := by decide +kernel
theorem dX11_hasMean_26 : decode cX11_hasMean 26 = .ok (.iload_n 3, 1) := by decide +kernel
theorem dX11_hasMean_27 : decode cX11_hasMean 27 = .ok (.invokevirtual 288, 3) := by decide +kernel
theorem dX11_hasMean_30 : decode cX11_hasMean 30 = .ok (.aload_n 0, 1) := by decide +kernel
theorem dX11_hasMean_31 : decode cX11_hasMean 31 = .ok (.getfield 53, 3) := by decide +kernel
theorem dX11_hasMean_34 : decode cX11_hasMean 34 = .ok (.iload_n 1, 1) := by decide +kernel
theorem dX11_hasMean_35 : decode cX11_hasMean 35 = .ok (.invokevirtual 279, 3) := by decide +kernel
theorem dX11_hasMean_38 : decode cX11_hasMean 38 = .ok (.ireturn, 1) := by decide +kernel
theorem dX11_bonusesOf_0 : decode cX11_bonusesOf 0 = .ok (.aload_n 0, 1) := by decide +kernel
theorem dX11_bonusesOf_1 : decode cX11_bonusesOf 1 = .ok (.getfield 37, 3) := by decide +kernel
theorem dX11_bonusesOf_4 : decode cX11_bonusesOf 4 = .ok (.invokevirtual 220, 3) := by decide +kernel
theorem dX11_bonusesOf_7 : decode cX11_bonusesOf 7 = .ok (.aload_n 0, 1) := by decide +kernel
theorem dX11_bonusesOf_8 : decode cX11_bonusesOf 8 = .ok (.getfield 44, 3) := by decide +kernel
theorem dX11_bonusesOf_11 : decode cX11_bonusesOf 11 = .ok (.invokevirtual 230, 3) := by decide +kernel
theorem dX11_bonusesOf_14 : decode cX11_bonusesOf 14 = .ok (.aload_n 0, 1) := by decide +kernel
theorem dX11_bonusesOf_15 : decode cX11_bonusesOf 15 = .ok (.getfield 10, 3) := by decide +kernel
theorem dX11_bonusesOf_18 : decode cX11_bonusesOf 18 = .ok (.invokevirtual 350, 3) := by decide +kernel
theorem dX11_bonusesOf_21 : decode cX11_bonusesOf 21 = .ok (.istore 4, 2) := by decide +kernel
theorem dX11_bonusesOf_23 : decode cX11_bonusesOf 23 = .ok (.iconst 0, 1) := by decide +kernel
theorem dX11_bonusesOf_24 : decode cX11_bonusesOf 24 = .ok (.istore 5, 2) := by decide +kernel
theorem dX11_bonusesOf_26 : decode cX11_bonusesOf 26 = .ok (.iconst 0, 1) := by decide +kernel
theorem dX11_bonusesOf_27 : decode cX11_bonusesOf 27 = .ok (.istore 6, 2) := by decide +kernel
theorem dX11_bonusesOf_29 : decode cX11_bonusesOf 29 = .ok (.iload 6, 2) := by decide +kernel
theorem dX11_bonusesOf_31 : decode cX11_bonusesOf 31 = .ok (.iload 4, 2) := by decide +kernel
theorem dX11_bonusesOf_33 : decode cX11_bonusesOf 33 = .ok (.if_icmp .ge 72, 3) := by decide +kernel
theorem dX11_bonusesOf_36 : decode cX11_bonusesOf 36 = .ok (.aload_n 0, 1) := by decide +kernel
theorem dX11_bonusesOf_37 : decode cX11_bonusesOf 37 = .ok (.getfield 10, 3) := by decide +kernel
theorem dX11_bonusesOf_40 : decode cX11_bonusesOf 40 = .ok (.getfield 156, 3) := by decide +kernel
theorem dX11_bonusesOf_43 : decode cX11_bonusesOf 43 = .ok (.iload 6, 2) := by decide +kernel
theorem dX11_bonusesOf_45 : decode cX11_bonusesOf 45 = .ok (.aaload, 1) := by decide +kernel
theorem dX11_bonusesOf_46 : decode cX11_bonusesOf 46 = .ok (.astore 7, 2) := by decide +kernel
theorem dX11_bonusesOf_48 : decode cX11_bonusesOf 48 = .ok (.aload 7, 2) := by decide +kernel
theorem dX11_bonusesOf_50 : decode cX11_bonusesOf 50 = .ok (.invokevirtual 226, 3) := by decide +kernel
theorem dX11_bonusesOf_53 : decode cX11_bonusesOf 53 = .ok (.ifCond .eq 46, 3) := by decide +kernel
theorem dX11_bonusesOf_56 : decode cX11_bonusesOf 56 = .ok (.aload 7, 2) := by decide +kernel
theorem dX11_bonusesOf_58 : decode cX11_bonusesOf 58 = .ok (.getfield 334, 3) := by decide +kernel
theorem dX11_bonusesOf_61 : decode cX11_bonusesOf 61 = .ok (.iload_n 2, 1) := by decide +kernel
theorem dX11_bonusesOf_62 : decode cX11_bonusesOf 62 = .ok (.iload_n 3, 1) := by decide +kernel
theorem dX11_bonusesOf_63 : decode cX11_bonusesOf 63 = .ok (.invokestatic 71, 3) := by decide +kernel
theorem dX11_bonusesOf_66 : decode cX11_bonusesOf 66 = .ok (.ifCond .eq 33, 3) := by decide +kernel
theorem dX11_bonusesOf_69 : decode cX11_bonusesOf 69 = .ok (.aload_n 0, 1) := by decide +kernel
theorem dX11_bonusesOf_70 : decode cX11_bonusesOf 70 = .ok (.getfield 10, 3) := by decide +kernel
theorem dX11_bonusesOf_73 : decode cX11_bonusesOf 73 = .ok (.getfield 96, 3) := by decide +kernel
theorem dX11_bonusesOf_76 : decode cX11_bonusesOf 76 = .ok (.aload 7, 2) := by decide +kernel
theorem dX11_bonusesOf_78 : decode cX11_bonusesOf 78 = .ok (.getfield 160, 3) := by decide +kernel
theorem dX11_bonusesOf_81 : decode cX11_bonusesOf 81 = .ok (.aaload, 1) := by decide +kernel
theorem dX11_bonusesOf_82 : decode cX11_bonusesOf 82 = .ok (.getfield 365, 3) := by decide +kernel
theorem dX11_bonusesOf_85 : decode cX11_bonusesOf 85 = .ok (.iload_n 1, 1) := by decide +kernel
theorem dX11_bonusesOf_86 : decode cX11_bonusesOf 86 = .ok (.if_icmp .ne 13, 3) := by decide +kernel
theorem dX11_bonusesOf_89 : decode cX11_bonusesOf 89 = .ok (.iload 5, 2) := by decide +kernel
theorem dX11_bonusesOf_91 : decode cX11_bonusesOf 91 = .ok (.aload 7, 2) := by decide +kernel
theorem dX11_bonusesOf_93 : decode cX11_bonusesOf 93 = .ok (.getfield 234, 3) := by decide +kernel
theorem dX11_bonusesOf_96 : decode cX11_bonusesOf 96 = .ok (.iadd, 1) := by decide +kernel
theorem dX11_bonusesOf_97 : decode cX11_bonusesOf 97 = .ok (.istore 5, 2) := by decide +kernel
theorem dX11_bonusesOf_99 : decode cX11_bonusesOf 99 = .ok (.iinc 6 1, 3) := by decide +kernel
theorem dX11_bonusesOf_102 : decode cX11_bonusesOf 102 = .ok (.goto (-73), 3) := by decide +kernel
theorem dX11_bonusesOf_105 : decode cX11_bonusesOf 105 = .ok (.iload 5, 2) := by decide +kernel
theorem dX11_bonusesOf_107 : decode cX11_bonusesOf 107 = .ok (.ireturn, 1) := by decide +kernel
theorem dX11_feesOf_0 : decode cX11_feesOf 0 = .ok (.aload_n 0, 1) := by decide +kernel
theorem dX11_feesOf_1 : decode cX11_feesOf 1 = .ok (.getfield 37, 3) := by decide +kernel
theorem dX11_feesOf_4 : decode cX11_feesOf 4 = .ok (.invokevirtual 220, 3) := by decide +kernel
theorem dX11_feesOf_7 : decode cX11_feesOf 7 = .ok (.aload_n 0, 1) := by decide +kernel
theorem dX11_feesOf_8 : decode cX11_feesOf 8 = .ok (.getfield 10, 3) := by decide +kernel
theorem dX11_feesOf_11 : decode cX11_feesOf 11 = .ok (.invokevirtual 350, 3) := by decide +kernel
theorem dX11_feesOf_14 : decode cX11_feesOf 14 = .ok (.istore 4, 2) := by decide +kernel
theorem dX11_feesOf_16 : decode cX11_feesOf 16 = .ok (.iconst 0, 1) := by decide +kernel
theorem dX11_feesOf_17 : decode cX11_feesOf 17 = .ok (.istore 5, 2) := by decide +kernel
theorem dX11_feesOf_19 : decode cX11_feesOf 19 = .ok (.iconst 0, 1) := by decide +kernel
theorem dX11_feesOf_20 : decode cX11_feesOf 20 = .ok (.istore 6, 2) := by decide +kernel
theorem dX11_feesOf_22 : decode cX11_feesOf 22 = .ok (.iload 6, 2) := by decide +kernel
theorem dX11_feesOf_24 : decode cX11_feesOf 24 = .ok (.iload 4, 2) := by decide +kernel
theorem dX11_feesOf_26 : decode cX11_feesOf 26 = .ok (.if_icmp .ge 86, 3) := by decide +kernel
theorem dX11_feesOf_29 : decode cX11_feesOf 29 = .ok (.aload_n 0, 1) := by decide +kernel
theorem dX11_feesOf_30 : decode cX11_feesOf 30 = .ok (.getfield 10, 3) := by decide +kernel
theorem dX11_feesOf_33 : decode cX11_feesOf 33 = .ok (.getfield 156, 3) := by decide +kernel
theorem dX11_feesOf_36 : decode cX11_feesOf 36 = .ok (.iload 6, 2) := by decide +kernel
theorem dX11_feesOf_38 : decode cX11_feesOf 38 = .ok (.aaload, 1) := by decide +kernel
theorem dX11_feesOf_39 : decode cX11_feesOf 39 = .ok (.astore 7, 2) := by decide +kernel
theorem dX11_feesOf_41 : decode cX11_feesOf 41 = .ok (.aload 7, 2) := by decide +kernel
theorem dX11_feesOf_43 : decode cX11_feesOf 43 = .ok (.invokevirtual 226, 3) := by decide +kernel
theorem dX11_feesOf_46 : decode cX11_feesOf 46 = .ok (.ifCond .eq 60, 3) := by decide +kernel
theorem dX11_feesOf_49 : decode cX11_feesOf 49 = .ok (.aload 7, 2) := by decide +kernel
theorem dX11_feesOf_51 : decode cX11_feesOf 51 = .ok (.getfield 334, 3) := by decide +kernel
theorem dX11_feesOf_54 : decode cX11_feesOf 54 = .ok (.iload_n 2, 1) := by decide +kernel
theorem dX11_feesOf_55 : decode cX11_feesOf 55 = .ok (.iload_n 3, 1) := by decide +kernel
theorem dX11_feesOf_56 : decode cX11_feesOf 56 = .ok (.invokestatic 71, 3) := by decide +kernel
theorem dX11_feesOf_59 : decode cX11_feesOf 59 = .ok (.ifCond .eq 47, 3) := by decide +kernel
theorem dX11_feesOf_62 : decode cX11_feesOf 62 = .ok (.aload 7, 2) := by decide +kernel
theorem dX11_feesOf_64 : decode cX11_feesOf 64 = .ok (.getfield 368, 3) := by decide +kernel
theorem dX11_feesOf_67 : decode cX11_feesOf 67 = .ok (.iload_n 1, 1) := by decide +kernel
theorem dX11_feesOf_68 : decode cX11_feesOf 68 = .ok (.if_icmp .ne 38, 3) := by decide +kernel
theorem dX11_feesOf_71 : decode cX11_feesOf 71 = .ok (.iload 5, 2) := by decide +kernel
theorem dX11_feesOf_73 : decode cX11_feesOf 73 = .ok (.aload_n 0, 1) := by decide +kernel
theorem dX11_feesOf_74 : decode cX11_feesOf 74 = .ok (.getfield 64, 3) := by decide +kernel
theorem dX11_feesOf_77 : decode cX11_feesOf 77 = .ok (.aload_n 0, 1) := by decide +kernel
theorem dX11_feesOf_78 : decode cX11_feesOf 78 = .ok (.getfield 10, 3) := by decide +kernel
theorem dX11_feesOf_81 : decode cX11_feesOf 81 = .ok (.getfield 371, 3) := by decide +kernel
theorem dX11_feesOf_84 : decode cX11_feesOf 84 = .ok (.iconst 5, 1) := by decide +kernel
theorem dX11_feesOf_85 : decode cX11_feesOf 85 = .ok (.idiv, 1) := by decide +kernel
theorem dX11_feesOf_86 : decode cX11_feesOf 86 = .ok (.iconst 2, 1) := by decide +kernel
theorem dX11_feesOf_87 : decode cX11_feesOf 87 = .ok (.imul, 1) := by decide +kernel
theorem dX11_feesOf_88 : decode cX11_feesOf 88 = .ok (.aload_n 0, 1) := by decide +kernel
theorem dX11_feesOf_89 : decode cX11_feesOf 89 = .ok (.getfield 10, 3) := by decide +kernel
theorem dX11_feesOf_92 : decode cX11_feesOf 92 = .ok (.iload_n 1, 1) := by decide +kernel
theorem dX11_feesOf_93 : decode cX11_feesOf 93 = .ok (.aload 7, 2) := by decide +kernel
theorem dX11_feesOf_95 : decode cX11_feesOf 95 = .ok (.getfield 160, 3) := by decide +kernel
theorem dX11_feesOf_98 : decode cX11_feesOf 98 = .ok (.invokevirtual 374, 3) := by decide +kernel
theorem dX11_feesOf_101 : decode cX11_feesOf 101 = .ok (.imul, 1) := by decide +kernel
theorem dX11_feesOf_102 : decode cX11_feesOf 102 = .ok (.iadd, 1) := by decide +kernel
theorem dX11_feesOf_103 : decode cX11_feesOf 103 = .ok (.iadd, 1) := by decide +kernel
theorem dX11_feesOf_104 : decode cX11_feesOf 104 = .ok (.istore 5, 2) := by decide +kernel
theorem dX11_feesOf_106 : decode cX11_feesOf 106 = .ok (.iinc 6 1, 3) := by decide +kernel
theorem dX11_feesOf_109 : decode cX11_feesOf 109 = .ok (.goto (-87), 3) := by decide +kernel
theorem dX11_feesOf_112 : decode cX11_feesOf 112 = .ok (.iload 5, 2) := by decide +kernel
theorem dX11_feesOf_114 : decode cX11_feesOf 114 = .ok (.ireturn, 1) := by decide +kernel
theorem dX11_isWithin_0 : decode cX11_isWithin 0 = .ok (.iload_n 0, 1) := by decide +kernel
theorem dX11_isWithin_1 : decode cX11_isWithin 1 = .ok (.iload_n 1, 1) := by decide +kernel
theorem dX11_isWithin_2 : decode cX11_isWithin 2 = .ok (.if_icmp .lt 12, 3) := by decide +kernel
theorem dX11_isWithin_5 : decode cX11_isWithin 5 = .ok (.iload_n 0, 1) := by decide +kernel
theorem dX11_isWithin_6 : decode cX11_isWithin 6 = .ok (.iload_n 2, 1) := by decide +kernel
theorem dX11_isWithin_7 : decode cX11_isWithin 7 = .ok (.if_icmp .gt 7, 3) := by decide +kernel
theorem dX11_isWithin_10 : decode cX11_isWithin 10 = .ok (.iconst 1, 1) := by decide +kernel
theorem dX11_isWithin_11 : decode cX11_isWithin 11 = .ok (.goto 4, 3) := by decide +kernel
theorem dX11_isWithin_14 : decode cX11_isWithin 14 = .ok (.iconst 0, 1) := by decide +kernel
theorem dX11_isWithin_15 : decode cX11_isWithin 15 = .ok (.ireturn, 1) := by decide +kernel
theorem dX11_isDay_0 : decode cX11_isDay 0 = .ok (.iload_n 0, 1) := by decide +kernel
theorem dX11_isDay_1 : decode cX11_isDay 1 = .ok (.iconst 0, 1) := by decide +kernel
theorem dX11_isDay_2 : decode cX11_isDay 2 = .ok (.sipush 9999, 3) := by decide +kernel
theorem dX11_isDay_5 : decode cX11_isDay 5 = .ok (.invokestatic 71, 3) := by decide +kernel
theorem dX11_isDay_8 : decode cX11_isDay 8 = .ok (.ireturn, 1) := by decide +kernel
theorem dX11_isSpan_0 : decode cX11_isSpan 0 = .ok (.iload_n 0, 1) := by decide +kernel
theorem dX11_isSpan_1 : decode cX11_isSpan 1 = .ok (.invokestatic 184, 3) := by decide +kernel
theorem dX11_isSpan_4 : decode cX11_isSpan 4 = .ok (.ifCond .eq 19, 3) := by decide +kernel
theorem dX11_isSpan_7 : decode cX11_isSpan 7 = .ok (.iload_n 1, 1) := by decide +kernel
theorem dX11_isSpan_8 : decode cX11_isSpan 8 = .ok (.invokestatic 184, 3) := by decide +kernel
theorem dX11_isSpan_11 : decode cX11_isSpan 11 = .ok (.ifCond .eq 12, 3) := by decide +kernel
theorem dX11_isSpan_14 : decode cX11_isSpan 14 = .ok (.iload_n 0, 1) := by decide +kernel
theorem dX11_isSpan_15 : decode cX11_isSpan 15 = .ok (.iload_n 1, 1) := by decide +kernel
theorem dX11_isSpan_16 : decode cX11_isSpan 16 = .ok (.if_icmp .gt 7, 3) := by decide +kernel
theorem dX11_isSpan_19 : decode cX11_isSpan 19 = .ok (.iconst 1, 1) := by decide +kernel
theorem dX11_isSpan_20 : decode cX11_isSpan 20 = .ok (.goto 4, 3) := by decide +kernel
theorem dX11_isSpan_23 : decode cX11_isSpan 23 = .ok (.iconst 0, 1) := by decide +kernel
theorem dX11_isSpan_24 : decode cX11_isSpan 24 = .ok (.ireturn, 1) := by decide +kernel
theorem dX11_isMinute_0 : decode cX11_isMinute 0 = .ok (.iload_n 0, 1) := by decide +kernel
theorem dX11_isMinute_1 : decode cX11_isMinute 1 = .ok (.iconst 0, 1) := by decide +kernel
theorem dX11_isMinute_2 : decode cX11_isMinute 2 = .ok (.sipush 1439, 3) := by decide +kernel
theorem dX11_isMinute_5 : decode cX11_isMinute 5 = .ok (.invokestatic 71, 3) := by decide +kernel
theorem dX11_isMinute_8 : decode cX11_isMinute 8 = .ok (.ireturn, 1) := by decide +kernel
theorem dX11_isPlace_0 : decode cX11_isPlace 0 = .ok (.iload_n 0, 1) := by decide +kernel
theorem dX11_isPlace_1 : decode cX11_isPlace 1 = .ok (.iconst 0, 1) := by decide +kernel
theorem dX11_isPlace_2 : decode cX11_isPlace 2 = .ok (.bipush 99, 2) := by decide +kernel
theorem dX11_isPlace_4 : decode cX11_isPlace 4 = .ok (.invokestatic 71, 3) := by decide +kernel
theorem dX11_isPlace_7 : decode cX11_isPlace 7 = .ok (.ifCond .eq 17, 3) := by decide +kernel
theorem dX11_isPlace_10 : decode cX11_isPlace 10 = .ok (.iload_n 1, 1) := by decide +kernel
theorem dX11_isPlace_11 : decode cX11_isPlace 11 = .ok (.iconst 0, 1) := by decide +kernel
theorem dX11_isPlace_12 : decode cX11_isPlace 12 = .ok (.bipush 99, 2) := by decide +kernel
theorem dX11_isPlace_14 : decode cX11_isPlace 14 = .ok (.invokestatic 71, 3) := by decide +kernel
theorem dX11_isPlace_17 : decode cX11_isPlace 17 = .ok (.ifCond .eq 7, 3) := by decide +kernel
theorem dX11_isPlace_20 : decode cX11_isPlace 20 = .ok (.iconst 1, 1) := by decide +kernel
theorem dX11_isPlace_21 : decode cX11_isPlace 21 = .ok (.goto 4, 3) := by decide +kernel
theorem dX11_isPlace_24 : decode cX11_isPlace 24 = .ok (.iconst 0, 1) := by decide +kernel
theorem dX11_isPlace_25 : decode cX11_isPlace 25 = .ok (.ireturn, 1) := by decide +kernel
theorem dX11_isChain_0 : decode cX11_isChain 0 = .ok (.iload_n 0, 1) := by decide +kernel
theorem dX11_isChain_1 : decode cX11_isChain 1 = .ok (.iconst 0, 1) := by decide +kernel
theorem dX11_isChain_2 : decode cX11_isChain 2 = .ok (.iconst 3, 1) := by decide +kernel
theorem dX11_isChain_3 : decode cX11_isChain 3 = .ok (.invokestatic 71, 3) := by decide +kernel
theorem dX11_isChain_6 : decode cX11_isChain 6 = .ok (.ireturn, 1) := by decide +kernel
theorem dX12_feed_0 : decode cX12_feed 0 = .ok (.aload_n 0, 1) := by decide +kernel
theorem dX12_feed_1 : decode cX12_feed 1 = .ok (.iconst 0, 1) := by decide +kernel
theorem dX12_feed_2 : decode cX12_feed 2 = .ok (.putfield 1, 3) := by decide +kernel
theorem dX12_feed_5 : decode cX12_feed 5 = .ok (.aload_n 0, 1) := by decide +kernel
theorem dX12_feed_6 : decode cX12_feed 6 = .ok (.lload_n 1, 1) := by decide +kernel
theorem dX12_feed_7 : decode cX12_feed 7 = .ok (.invokevirtual 7, 3) := by decide +kernel
theorem dX12_feed_10 : decode cX12_feed 10 = .ok (.aload_n 0, 1) := by decide +kernel
theorem dX12_feed_11 : decode cX12_feed 11 = .ok (.lload_n 3, 1) := by decide +kernel
theorem dX12_feed_12 : decode cX12_feed 12 = .ok (.invokevirtual 7, 3) := by decide +kernel
theorem dX12_feed_15 : decode cX12_feed 15 = .ok (.aload_n 0, 1) := by decide +kernel
theorem dX12_feed_16 : decode cX12_feed 16 = .ok (.lload 5, 2) := by decide +kernel
theorem dX12_feed_18 : decode cX12_feed 18 = .ok (.invokevirtual 7, 3) := by decide +kernel
theorem dX12_feed_21 : decode cX12_feed 21 = .ok (.aload_n 0, 1) := by decide +kernel
theorem dX12_feed_22 : decode cX12_feed 22 = .ok (.getfield 11, 3) := by decide +kernel
theorem dX12_feed_25 : decode cX12_feed 25 = .ok (.ireturn, 1) := by decide +kernel
theorem dX12_lay_0 : decode cX12_lay 0 = .ok (.bipush 56, 2) := by decide +kernel
theorem dX12_lay_2 : decode cX12_lay 2 = .ok (.istore_n 3, 1) := by decide +kernel
theorem dX12_lay_3 : decode cX12_lay 3 = .ok (.iload_n 3, 1) := by decide +kernel
theorem dX12_lay_4 : decode cX12_lay 4 = .ok (.ifCond .lt 71, 3) := by decide +kernel
theorem dX12_lay_7 : decode cX12_lay 7 = .ok (.lload_n 1, 1) := by decide +kernel
theorem dX12_lay_8 : decode cX12_lay 8 = .ok (.iload_n 3, 1) := by decide +kernel
theorem dX12_lay_9 : decode cX12_lay 9 = .ok (.lshr, 1) := by decide +kernel
theorem dX12_lay_10 : decode cX12_lay 10 = .ok (.l2i, 1) := by decide +kernel
theorem dX12_lay_11 : decode cX12_lay 11 = .ok (.sipush 255, 3) := by decide +kernel
theorem dX12_lay_14 : decode cX12_lay 14 = .ok (.iand, 1) := by decide +kernel
theorem dX12_lay_15 : decode cX12_lay 15 = .ok (.istore 4, 2) := by decide +kernel
theorem dX12_lay_17 : decode cX12_lay 17 = .ok (.iload 4, 2) := by decide +kernel
theorem dX12_lay_19 : decode cX12_lay 19 = .ok (.bipush 10, 2) := by decide +kernel
theorem dX12_lay_21 : decode cX12_lay 21 = .ok (.if_icmp .eq 17, 3) := by decide +kernel
theorem dX12_lay_24 : decode cX12_lay 24 = .ok (.iload 4, 2) := by decide +kernel
theorem dX12_lay_26 : decode cX12_lay 26 = .ok (.bipush 32, 2) := by decide +kernel
theorem dX12_lay_28 : decode cX12_lay 28 = .ok (.if_icmp .lt 41, 3) := by decide +kernel
theorem dX12_lay_31 : decode cX12_lay 31 = .ok (.iload 4, 2) := by decide +kernel
theorem dX12_lay_33 : decode cX12_lay 33 = .ok (.bipush 126, 2) := by decide +kernel
theorem dX12_lay_35 : decode cX12_lay 35 = .ok (.if_icmp .gt 34, 3) := by decide +kernel
theorem dX12_lay_38 : decode cX12_lay 38 = .ok (.aload_n 0, 1) := by decide +kernel
theorem dX12_lay_39 : decode cX12_lay 39 = .ok (.getfield 11, 3) := by decide +kernel
theorem dX12_lay_42 : decode cX12_lay 42 = .ok (.sipush 1000, 3) := by decide +kernel
theorem dX12_lay_45 : decode cX12_lay 45 = .ok (.if_icmp .ge 24, 3) := by decide +kernel
theorem dX12_lay_48 : decode cX12_lay 48 = .ok (.aload_n 0, 1) := by decide +kernel
theorem dX12_lay_49 : decode cX12_lay 49 = .ok (.getfield 14, 3) := by decide +kernel
theorem dX12_lay_52 : decode cX12_lay 52 = .ok (.aload_n 0, 1) := by decide +kernel
theorem dX12_lay_53 : decode cX12_lay 53 = .ok (.getfield 11, 3) := by decide +kernel
theorem dX12_lay_56 : decode cX12_lay 56 = .ok (.iload 4, 2) := by decide +kernel
theorem dX12_lay_58 : decode cX12_lay 58 = .ok (.iastore, 1) := by decide +kernel
theorem dX12_lay_59 : decode cX12_lay 59 = .ok (.aload_n 0, 1) := by decide +kernel
theorem dX12_lay_60 : decode cX12_lay 60 = .ok (.dup, 1) := by decide +kernel
theorem dX12_lay_61 : decode cX12_lay 61 = .ok (.getfield 11, 3) := by decide +kernel
theorem dX12_lay_64 : decode cX12_lay 64 = .ok (.iconst 1, 1) := by decide +kernel
theorem dX12_lay_65 : decode cX12_lay 65 = .ok (.iadd, 1) := by decide +kernel
theorem dX12_lay_66 : decode cX12_lay 66 = .ok (.putfield 11, 3) := by decide +kernel
theorem dX12_lay_69 : decode cX12_lay 69 = .ok (.iinc 3 (-8), 3) := by decide +kernel
theorem dX12_lay_72 : decode cX12_lay 72 = .ok (.goto (-69), 3) := by decide +kernel
theorem dX12_lay_75 : decode cX12_lay 75 = .ok (.return_, 1) := by decide +kernel
theorem dX12_init_0 : decode cX12_init 0 = .ok (.aload_n 0, 1) := by decide +kernel
theorem dX12_init_1 : decode cX12_init 1 = .ok (.invokespecial 18, 3) := by decide +kernel
theorem dX12_init_4 : decode cX12_init 4 = .ok (.aload_n 0, 1) := by decide +kernel
theorem dX12_init_5 : decode cX12_init 5 = .ok (.sipush 1000, 3) := by decide +kernel
theorem dX12_init_8 : decode cX12_init 8 = .ok (.newarray .int, 2) := by decide +kernel
theorem dX12_init_10 : decode cX12_init 10 = .ok (.putfield 14, 3) := by decide +kernel
theorem dX12_init_13 : decode cX12_init 13 = .ok (.aload_n 0, 1) := by decide +kernel
theorem dX12_init_14 : decode cX12_init 14 = .ok (.sipush 1002, 3) := by decide +kernel
theorem dX12_init_17 : decode cX12_init 17 = .ok (.newarray .int, 2) := by decide +kernel
theorem dX12_init_19 : decode cX12_init 19 = .ok (.putfield 24, 3) := by decide +kernel
theorem dX12_init_22 : decode cX12_init 22 = .ok (.aload_n 0, 1) := by decide +kernel
theorem dX12_init_23 : decode cX12_init 23 = .ok (.sipush 1002, 3) := by decide +kernel
theorem dX12_init_26 : decode cX12_init 26 = .ok (.newarray .int, 2) := by decide +kernel
theorem dX12_init_28 : decode cX12_init 28 = .ok (.putfield 27, 3) := by decide +kernel
theorem dX12_init_31 : decode cX12_init 31 = .ok (.aload_n 0, 1) := by decide +kernel
theorem dX12_init_32 : decode cX12_init 32 = .ok (.sipush 1002, 3) := by decide +kernel
theorem dX12_init_35 : decode cX12_init 35 = .ok (.newarray .long, 2) := by decide +kernel
theorem dX12_init_37 : decode cX12_init 37 = .ok (.putfield 30, 3) := by decide +kernel
theorem dX12_init_40 : decode cX12_init 40 = .ok (.aload_n 0, 1) := by decide +kernel
theorem dX12_init_41 : decode cX12_init 41 = .ok (.bipush 15, 2) := by decide +kernel
theorem dX12_init_43 : decode cX12_init 43 = .ok (.newarray .long, 2) := by decide +kernel
theorem dX12_init_45 : decode cX12_init 45 = .ok (.dup, 1) := by decide +kernel
theorem dX12_init_46 : decode cX12_init 46 = .ok (.iconst 0, 1) := by decide +kernel
theorem dX12_init_47 : decode cX12_init 47 = .ok (.ldc2_w 34, 3) := by decide +kernel
theorem dX12_init_50 : decode cX12_init 50 = .ok (.lastore, 1) := by decide +kernel
theorem dX12_init_51 : decode cX12_init 51 = .ok (.dup, 1) := by decide +kernel
theorem dX12_init_52 : decode cX12_init 52 = .ok (.iconst 1, 1) := by decide +kernel
theorem dX12_init_53 : decode cX12_init 53 = .ok (.ldc2_w 36, 3) := by decide +kernel
theorem dX12_init_56 : decode cX12_init 56 = .ok (.lastore, 1) := by decide +kernel
theorem dX12_init_57 : decode cX12_init 57 = .ok (.dup, 1) := by decide +kernel
theorem dX12_init_58 : decode cX12_init 58 = .ok (.iconst 2, 1) := by decide +kernel
theorem dX12_init_59 : decode cX12_init 59 = .ok (.ldc2_w 38, 3) := by decide +kernel
theorem dX12_init_62 : decode cX12_init 62 = .ok (.lastore, 1) := by decide +kernel
theorem dX12_init_63 : decode cX12_init 63 = .ok (.dup, 1) := by decide +kernel
theorem dX12_init_64 : decode cX12_init 64 = .ok (.iconst 3, 1) := by decide +kernel
theorem dX12_init_65 : decode cX12_init 65 = .ok (.ldc2_w 40, 3) := by decide +kernel
theorem dX12_init_68 : decode cX12_init 68 = .ok (.lastore, 1) := by decide +kernel
theorem dX12_init_69 : decode cX12_init 69 = .ok (.dup, 1) := by decide +kernel
theorem dX12_init_70 : decode cX12_init 70 = .ok (.iconst 4, 1) := by decide +kernel
theorem dX12_init_71 : decode cX12_init 71 = .ok (.ldc2_w 42, 3) := by decide +kernel
theorem dX12_init_74 : decode cX12_init 74 = .ok (.lastore, 1) := by decide +kernel
theorem dX12_init_75 : decode cX12_init 75 = .ok (.dup, 1) := by decide +kernel
theorem dX12_init_76 : decode cX12_init 76 = .ok (.iconst 5, 1) := by decide +kernel
theorem dX12_init_77 : decode cX12_init 77 = .ok (.ldc2_w 44, 3) := by decide +kernel
theorem dX12_init_80 : decode cX12_init 80 = .ok (.lastore, 1) := by decide +kernel
theorem dX12_init_81 : decode cX12_init 81 = .ok (.dup, 1) := by decide +kernel
theorem dX12_init_82 : decode cX12_init 82 = .ok (.bipush 6, 2) := by decide +kernel
theorem dX12_init_84 : decode cX12_init 84 = .ok (.ldc2_w 46, 3) := by decide +kernel
theorem dX12_init_87 : decode cX12_init 87 = .ok (.lastore, 1) := by decide +kernel
theorem dX12_init_88 : decode cX12_init 88 = .ok (.dup, 1) := by decide +kernel
theorem dX12_init_89 : decode cX12_init 89 = .ok (.bipush 7, 2) := by decide +kernel
theorem dX12_init_91 : decode cX12_init 91 = .ok (.ldc2_w 48, 3) := by decide +kernel
theorem dX12_init_94 : decode cX12_init 94 = .ok (.lastore, 1) := by decide +kernel
theorem dX12_init_95 : decode cX12_init 95 = .ok (.dup, 1) := by decide +kernel
theorem dX12_init_96 : decode cX12_init 96 = .ok (.bipush 8, 2) := by decide +kernel
theorem dX12_init_98 : decode cX12_init 98 = .ok (.ldc2_w 50, 3) := by decide +kernel
theorem dX12_init_101 : decode cX12_init 101 = .ok (.lastore, 1) := by decide +kernel
theorem dX12_init_102 : decode cX12_init 102 = .ok (.dup, 1) := by decide +kernel
theorem dX12_init_103 : decode cX12_init 103 = .ok (.bipush 9, 2) := by decide +kernel
theorem dX12_init_105 : decode cX12_init 105 = .ok (.ldc2_w 52, 3) := by decide +kernel
theorem dX12_init_108 : decode cX12_init 108 = .ok (.lastore, 1) := by decide +kernel
theorem dX12_init_109 : decode cX12_init 109 = .ok (.dup, 1) := by decide +kernel
theorem dX12_init_110 : decode cX12_init 110 = .ok (.bipush 10, 2) := by decide +kernel
theorem dX12_init_112 : decode cX12_init 112 = .ok (.ldc2_w 54, 3) := by decide +kernel
theorem dX12_init_115 : decode cX12_init 115 = .ok (.lastore, 1) := by decide +kernel
theorem dX12_init_116 : decode cX12_init 116 = .ok (.dup, 1) := by decide +kernel
theorem dX12_init_117 : decode cX12_init 117 = .ok (.bipush 11, 2) := by decide +kernel
theorem dX12_init_119 : decode cX12_init 119 = .ok (.ldc2_w 56, 3) := by decide +kernel
theorem dX12_init_122 : decode cX12_init 122 = .ok (.lastore, 1) := by decide +kernel
theorem dX12_init_123 : decode cX12_init 123 = .ok (.dup, 1) := by decide +kernel
theorem dX12_init_124 : decode cX12_init 124 = .ok (.bipush 12, 2) := by decide +kernel
theorem dX12_init_126 : decode cX12_init 126 = .ok (.ldc2_w 58, 3) := by decide +kernel
theorem dX12_init_129 : decode cX12_init 129 = .ok (.lastore, 1) := by decide +kernel
theorem dX12_init_130 : decode cX12_init 130 = .ok (.dup, 1) := by decide +kernel
theorem dX12_init_131 : decode cX12_init 131 = .ok (.bipush 13, 2) := by decide +kernel
theorem dX12_init_133 : decode cX12_init 133 = .ok (.ldc2_w 60, 3) := by decide +kernel
theorem dX12_init_136 : decode cX12_init 136 = .ok (.lastore, 1) := by decide +kernel
theorem dX12_init_137 : decode cX12_init 137 = .ok (.dup, 1) := by decide +kernel
theorem dX12_init_138 : decode cX12_init 138 = .ok (.bipush 14, 2) := by decide +kernel
theorem dX12_init_140 : decode cX12_init 140 = .ok (.ldc2_w 62, 3) := by decide +kernel
theorem dX12_init_143 : decode cX12_init 143 = .ok (.lastore, 1) := by decide +kernel
theorem dX12_init_144 : decode cX12_init 144 = .ok (.putfield 64, 3) := by decide +kernel
theorem dX12_init_147 : decode cX12_init 147 = .ok (.aload_n 0, 1) := by decide +kernel
theorem dX12_init_148 : decode cX12_init 148 = .ok (.bipush 17, 2) := by decide +kernel
theorem dX12_init_150 : decode cX12_init 150 = .ok (.newarray .int, 2) := by decide +kernel
theorem dX12_init_152 : decode cX12_init 152 = .ok (.putfield 67, 3) := by decide +kernel
theorem dX12_init_155 : decode cX12_init 155 = .ok (.aload_n 0, 1) := by decide +kernel
theorem dX12_init_156 : decode cX12_init 156 = .ok (.bipush 17, 2) := by decide +kernel
theorem dX12_init_158 : decode cX12_init 158 = .ok (.newarray .int, 2) := by decide +kernel
theorem dX12_init_160 : decode cX12_init 160 = .ok (.putfield 70, 3) := by decide +kernel
theorem dX12_init_163 : decode cX12_init 163 = .ok (.aload_n 0, 1) := by decide +kernel
theorem dX12_init_164 : decode cX12_init 164 = .ok (.bipush 17, 2) := by decide +kernel
theorem dX12_init_166 : decode cX12_init 166 = .ok (.newarray .int, 2) := by decide +kernel
theorem dX12_init_168 : decode cX12_init 168 = .ok (.putfield 73, 3) := by decide +kernel
theorem dX12_init_171 : decode cX12_init 171 = .ok (.aload_n 0, 1) := by decide +kernel
theorem dX12_init_172 : decode cX12_init 172 = .ok (.bipush 17, 2) := by decide +kernel
theorem dX12_init_174 : decode cX12_init 174 = .ok (.newarray .int, 2) := by decide +kernel
theorem dX12_init_176 : decode cX12_init 176 = .ok (.putfield 76, 3) := by decide +kernel
theorem dX12_init_179 : decode cX12_init 179 = .ok (.aload_n 0, 1) := by decide +kernel
theorem dX12_init_180 : decode cX12_init 180 = .ok (.sipush 272, 3) := by decide +kernel
theorem dX12_init_183 : decode cX12_init 183 = .ok (.newarray .int, 2) := by decide +kernel
theorem dX12_init_185 : decode cX12_init 185 = .ok (.putfield 79, 3) := by decide +kernel
theorem dX12_init_188 : decode cX12_init 188 = .ok (.aload_n 0, 1) := by decide +kernel
theorem dX12_init_189 : decode cX12_init 189 = .ok (.sipush 272, 3) := by decide +kernel
theorem dX12_init_192 : decode cX12_init 192 = .ok (.newarray .int, 2) := by decide +kernel
theorem dX12_init_194 : decode cX12_init 194 = .ok (.putfield 82, 3) := by decide +kernel
theorem dX12_init_197 : decode cX12_init 197 = .ok (.aload_n 0, 1) := by decide +kernel
theorem dX12_init_198 : decode cX12_init 198 = .ok (.sipush 272, 3) := by decide +kernel
theorem dX12_init_201 : decode cX12_init 201 = .ok (.newarray .int, 2) := by decide +kernel
theorem dX12_init_203 : decode cX12_init 203 = .ok (.putfield 85, 3) := by decide +kernel
theorem dX12_init_206 : decode cX12_init 206 = .ok (.aload_n 0, 1) := by decide +kernel
theorem dX12_init_207 : decode cX12_init 207 = .ok (.sipush 272, 3) := by decide +kernel
theorem dX12_init_210 : decode cX12_init 210 = .ok (.newarray .int, 2) := by decide +kernel
theorem dX12_init_212 : decode cX12_init 212 = .ok (.putfield 88, 3) := by decide +kernel
theorem dX12_init_215 : decode cX12_init 215 = .ok (.aload_n 0, 1) := by decide +kernel
theorem dX12_init_216 : decode cX12_init 216 = .ok (.bipush 8, 2) := by decide +kernel
theorem dX12_init_218 : decode cX12_init 218 = .ok (.newarray .long, 2) := by decide +kernel
theorem dX12_init_220 : decode cX12_init 220 = .ok (.putfield 91, 3) := by decide +kernel
theorem dX12_init_223 : decode cX12_init 223 = .ok (.aload_n 0, 1) := by decide +kernel
theorem dX12_init_224 : decode cX12_init 224 = .ok (.sipush 20400, 3) := by decide +kernel
theorem dX12_init_227 : decode cX12_init 227 = .ok (.newarray .int, 2) := by decide +kernel
theorem dX12_init_229 : decode cX12_init 229 = .ok (.putfield 94, 3) := by decide +kernel
theorem dX12_init_232 : decode cX12_init 232 = .ok (.aload_n 0, 1) := by decide +kernel
theorem dX12_init_233 : decode cX12_init 233 = .ok (.sipush 20400, 3) := by decide +kernel
theorem dX12_init_236 : decode cX12_init 236 = .ok (.newarray .int, 2) := by decide +kernel
theorem dX12_init_238 : decode cX12_init 238 = .ok (.putfield 97, 3) := by decide +kernel
theorem dX12_init_241 : decode cX12_init 241 = .ok (.aload_n 0, 1) := by decide +kernel
theorem dX12_init_242 : decode cX12_init 242 = .ok (.bipush 6, 2) := by decide +kernel
theorem dX12_init_244 : decode cX12_init 244 = .ok (.newarray .int, 2) := by decide +kernel
theorem dX12_init_246 : decode cX12_init 246 = .ok (.putfield 100, 3) := by decide +kernel
theorem dX12_init_249 : decode cX12_init 249 = .ok (.aload_n 0, 1) := by decide +kernel
theorem dX12_init_250 : decode cX12_init 250 = .ok (.bipush 8, 2) := by decide +kernel
theorem dX12_init_252 : decode cX12_init 252 = .ok (.newarray .int, 2) := by decide +kernel
theorem dX12_init_254 : decode cX12_init 254 = .ok (.putfield 103, 3) := by decide +kernel
theorem dX12_init_257 : decode cX12_init 257 = .ok (.aload_n 0, 1) := by decide +kernel
theorem dX12_init_258 : decode cX12_init 258 = .ok (.sipush 1200, 3) := by decide +kernel
theorem dX12_init_261 : decode cX12_init 261 = .ok (.newarray .int, 2) := by decide +kernel
theorem dX12_init_263 : decode cX12_init 263 = .ok (.putfield 106, 3) := by decide +kernel
theorem dX12_init_266 : decode cX12_init 266 = .ok (.aload_n 0, 1) := by decide +kernel
theorem dX12_init_267 : decode cX12_init 267 = .ok (.bipush 20, 2) := by decide +kernel
theorem dX12_init_269 : decode cX12_init 269 = .ok (.newarray .int, 2) := by decide +kernel
theorem dX12_init_271 : decode cX12_init 271 = .ok (.putfield 109, 3) := by decide +kernel
theorem dX12_init_274 : decode cX12_init 274 = .ok (.aload_n 0, 1) := by decide +kernel
theorem dX12_init_275 : decode cX12_init 275 = .ok (.bipush 20, 2) := by decide +kernel
theorem dX12_init_277 : decode cX12_init 277 = .ok (.newarray .int, 2) := by decide +kernel
theorem dX12_init_279 : decode cX12_init 279 = .ok (.putfield 112, 3) := by decide +kernel
theorem dX12_init_282 : decode cX12_init 282 = .ok (.aload_n 0, 1) := by decide +kernel
theorem dX12_init_283 : decode cX12_init 283 = .ok (.bipush 20, 2) := by decide +kernel
theorem dX12_init_285 : decode cX12_init 285 = .ok (.newarray .int, 2) := by decide +kernel
theorem dX12_init_287 : decode cX12_init 287 = .ok (.putfield 115, 3) := by decide +kernel
theorem dX12_init_290 : decode cX12_init 290 = .ok (.aload_n 0, 1) := by decide +kernel
theorem dX12_init_291 : decode cX12_init 291 = .ok (.bipush 20, 2) := by decide +kernel
theorem dX12_init_293 : decode cX12_init 293 = .ok (.newarray .int, 2) := by decide +kernel
theorem dX12_init_295 : decode cX12_init 295 = .ok (.putfield 118, 3) := by decide +kernel
theorem dX12_init_298 : decode cX12_init 298 = .ok (.aload_n 0, 1) := by decide +kernel
theorem dX12_init_299 : decode cX12_init 299 = .ok (.bipush 20, 2) := by decide +kernel
theorem dX12_init_301 : decode cX12_init 301 = .ok (.newarray .int, 2) := by decide +kernel
theorem dX12_init_303 : decode cX12_init 303 = .ok (.putfield 121, 3) := by decide +kernel
theorem dX12_init_306 : decode cX12_init 306 = .ok (.aload_n 0, 1) := by decide +kernel
theorem dX12_init_307 : decode cX12_init 307 = .ok (.bipush 20, 2) := by decide +kernel
theorem dX12_init_309 : decode cX12_init 309 = .ok (.newarray .boolean, 2) := by decide +kernel
theorem dX12_init_311 : decode cX12_init 311 = .ok (.putfield 124, 3) := by decide +kernel
theorem dX12_init_314 : decode cX12_init 314 = .ok (.aload_n 0, 1) := by decide +kernel
theorem dX12_init_315 : decode cX12_init 315 = .ok (.bipush 8, 2) := by decide +kernel
theorem dX12_init_317 : decode cX12_init 317 = .ok (.newarray .int, 2) := by decide +kernel
theorem dX12_init_319 : decode cX12_init 319 = .ok (.putfield 128, 3) := by decide +kernel
theorem dX12_init_322 : decode cX12_init 322 = .ok (.aload_n 0, 1) := by decide +kernel
theorem dX12_init_323 : decode cX12_init 323 = .ok (.bipush 8, 2) := by decide +kernel
theorem dX12_init_325 : decode cX12_init 325 = .ok (.newarray .int, 2) := by decide +kernel
theorem dX12_init_327 : decode cX12_init 327 = .ok (.putfield 131, 3) := by decide +kernel
theorem dX12_init_330 : decode cX12_init 330 = .ok (.aload_n 0, 1) := by decide +kernel
theorem dX12_init_331 : decode cX12_init 331 = .ok (.bipush 120, 2) := by decide +kernel
theorem dX12_init_333 : decode cX12_init 333 = .ok (.newarray .int, 2) := by decide +kernel
theorem dX12_init_335 : decode cX12_init 335 = .ok (.putfield 134, 3) := by decide +kernel
theorem dX12_init_338 : decode cX12_init 338 = .ok (.aload_n 0, 1) := by decide +kernel
theorem dX12_init_339 : decode cX12_init 339 = .ok (.bipush 120, 2) := by decide +kernel
theorem dX12_init_341 : decode cX12_init 341 = .ok (.newarray .int, 2) := by decide +kernel
theorem dX12_init_343 : decode cX12_init 343 = .ok (.putfield 137, 3) := by decide +kernel
theorem dX12_init_346 : decode cX12_init 346 = .ok (.aload_n 0, 1) := by decide +kernel
theorem dX12_init_347 : decode cX12_init 347 = .ok (.bipush 120, 2) := by decide +kernel
theorem dX12_init_349 : decode cX12_init 349 = .ok (.newarray .int, 2) := by decide +kernel
theorem dX12_init_351 : decode cX12_init 351 = .ok (.putfield 140, 3) := by decide +kernel
theorem dX12_init_354 : decode cX12_init 354 = .ok (.aload_n 0, 1) := by decide +kernel
theorem dX12_init_355 : decode cX12_init 355 = .ok (.bipush 120, 2) := by decide +kernel
theorem dX12_init_357 : decode cX12_init 357 = .ok (.newarray .int, 2) := by decide +kernel
theorem dX12_init_359 : decode cX12_init 359 = .ok (.putfield 143, 3) := by decide +kernel
theorem dX12_init_362 : decode cX12_init 362 = .ok (.aload_n 0, 1) := by decide +kernel
theorem dX12_init_363 : decode cX12_init 363 = .ok (.bipush 120, 2) := by decide +kernel
theorem dX12_init_365 : decode cX12_init 365 = .ok (.newarray .int, 2) := by decide +kernel
theorem dX12_init_367 : decode cX12_init 367 = .ok (.putfield 146, 3) := by decide +kernel
theorem dX12_init_370 : decode cX12_init 370 = .ok (.aload_n 0, 1) := by decide +kernel
theorem dX12_init_371 : decode cX12_init 371 = .ok (.bipush 120, 2) := by decide +kernel
theorem dX12_init_373 : decode cX12_init 373 = .ok (.newarray .int, 2) := by decide +kernel
theorem dX12_init_375 : decode cX12_init 375 = .ok (.putfield 149, 3) := by decide +kernel
theorem dX12_init_378 : decode cX12_init 378 = .ok (.aload_n 0, 1) := by decide +kernel
theorem dX12_init_379 : decode cX12_init 379 = .ok (.bipush 120, 2) := by decide +kernel
theorem dX12_init_381 : decode cX12_init 381 = .ok (.newarray .int, 2) := by decide +kernel
theorem dX12_init_383 : decode cX12_init 383 = .ok (.putfield 152, 3) := by decide +kernel
theorem dX12_init_386 : decode cX12_init 386 = .ok (.aload_n 0, 1) := by decide +kernel
theorem dX12_init_387 : decode cX12_init 387 = .ok (.bipush 120, 2) := by decide +kernel
theorem dX12_init_389 : decode cX12_init 389 = .ok (.newarray .int, 2) := by decide +kernel
theorem dX12_init_391 : decode cX12_init 391 = .ok (.putfield 155, 3) := by decide +kernel
theorem dX12_init_394 : decode cX12_init 394 = .ok (.aload_n 0, 1) := by decide +kernel
theorem dX12_init_395 : decode cX12_init 395 = .ok (.bipush 60, 2) := by decide +kernel
theorem dX12_init_397 : decode cX12_init 397 = .ok (.newarray .int, 2) := by decide +kernel
theorem dX12_init_399 : decode cX12_init 399 = .ok (.putfield 158, 3) := by decide +kernel
theorem dX12_init_402 : decode cX12_init 402 = .ok (.aload_n 0, 1) := by decide +kernel
theorem dX12_init_403 : decode cX12_init 403 = .ok (.bipush 60, 2) := by decide +kernel
theorem dX12_init_405 : decode cX12_init 405 = .ok (.newarray .int, 2) := by decide +kernel
theorem dX12_init_407 : decode cX12_init 407 = .ok (.putfield 161, 3) := by decide +kernel
theorem dX12_init_410 : decode cX12_init 410 = .ok (.aload_n 0, 1) := by decide +kernel
theorem dX12_init_411 : decode cX12_init 411 = .ok (.bipush 60, 2) := by decide +kernel
theorem dX12_init_413 : decode cX12_init 413 = .ok (.newarray .int, 2) := by decide +kernel
theorem dX12_init_415 : decode cX12_init 415 = .ok (.putfield 164, 3) := by decide +kernel
theorem dX12_init_418 : decode cX12_init 418 = .ok (.aload_n 0, 1) := by decide +kernel
theorem dX12_init_419 : decode cX12_init 419 = .ok (.bipush 120, 2) := by decide +kernel
theorem dX12_init_421 : decode cX12_init 421 = .ok (.newarray .int, 2) := by decide +kernel
theorem dX12_init_423 : decode cX12_init 423 = .ok (.putfield 167, 3) := by decide +kernel
theorem dX12_init_426 : decode cX12_init 426 = .ok (.aload_n 0, 1) := by decide +kernel
theorem dX12_init_427 : decode cX12_init 427 = .ok (.bipush 120, 2) := by decide +kernel
theorem dX12_init_429 : decode cX12_init 429 = .ok (.newarray .int, 2) := by decide +kernel
theorem dX12_init_431 : decode cX12_init 431 = .ok (.putfield 170, 3) := by decide +kernel
theorem dX12_init_434 : decode cX12_init 434 = .ok (.aload_n 0, 1) := by decide +kernel
theorem dX12_init_435 : decode cX12_init 435 = .ok (.bipush 120, 2) := by decide +kernel
theorem dX12_init_437 : decode cX12_init 437 = .ok (.newarray .int, 2) := by decide +kernel
theorem dX12_init_439 : decode cX12_init 439 = .ok (.putfield 173, 3) := by decide +kernel
theorem dX12_init_442 : decode cX12_init 442 = .ok (.aload_n 0, 1) := by decide +kernel
theorem dX12_init_443 : decode cX12_init 443 = .ok (.bipush 120, 2) := by decide +kernel
theorem dX12_init_445 : decode cX12_init 445 = .ok (.newarray .int, 2) := by decide +kernel
theorem dX12_init_447 : decode cX12_init 447 = .ok (.putfield 176, 3) := by decide +kernel
theorem dX12_init_450 : decode cX12_init 450 = .ok (.aload_n 0, 1) := by decide +kernel
theorem dX12_init_451 : decode cX12_init 451 = .ok (.bipush 12, 2) := by decide +kernel
theorem dX12_init_453 : decode cX12_init 453 = .ok (.newarray .int, 2) := by decide +kernel
theorem dX12_init_455 : decode cX12_init 455 = .ok (.putfield 179, 3) := by decide +kernel
theorem dX12_init_458 : decode cX12_init 458 = .ok (.aload_n 0, 1) := by decide +kernel
theorem dX12_init_459 : decode cX12_init 459 = .ok (.sipush 144, 3) := by decide +kernel
theorem dX12_init_462 : decode cX12_init 462 = .ok (.newarray .boolean, 2) := by decide +kernel
theorem dX12_init_464 : decode cX12_init 464 = .ok (.putfield 182, 3) := by decide +kernel
theorem dX12_init_467 : decode cX12_init 467 = .ok (.aload_n 0, 1) := by decide +kernel
theorem dX12_init_468 : decode cX12_init 468 = .ok (.bipush 8, 2) := by decide +kernel
theorem dX12_init_470 : decode cX12_init 470 = .ok (.newarray .int, 2) := by decide +kernel
theorem dX12_init_472 : decode cX12_init 472 = .ok (.putfield 185, 3) := by decide +kernel
theorem dX12_init_475 : decode cX12_init 475 = .ok (.aload_n 0, 1) := by decide +kernel
theorem dX12_init_476 : decode cX12_init 476 = .ok (.bipush 8, 2) := by decide +kernel
theorem dX12_init_478 : decode cX12_init 478 = .ok (.newarray .int, 2) := by decide +kernel
theorem dX12_init_480 : decode cX12_init 480 = .ok (.putfield 188, 3) := by decide +kernel
theorem dX12_init_483 : decode cX12_init 483 = .ok (.aload_n 0, 1) := by decide +kernel
theorem dX12_init_484 : decode cX12_init 484 = .ok (.bipush 20, 2) := by decide +kernel
theorem dX12_init_486 : decode cX12_init 486 = .ok (.newarray .int, 2) := by decide +kernel
theorem dX12_init_488 : decode cX12_init 488 = .ok (.putfield 191, 3) := by decide +kernel
theorem dX12_init_491 : decode cX12_init 491 = .ok (.aload_n 0, 1) := by decide +kernel
theorem dX12_init_492 : decode cX12_init 492 = .ok (.bipush 20, 2) := by decide +kernel
theorem dX12_init_494 : decode cX12_init 494 = .ok (.newarray .int, 2) := by decide +kernel
theorem dX12_init_496 : decode cX12_init 496 = .ok (.putfield 194, 3) := by decide +kernel
theorem dX12_init_499 : decode cX12_init 499 = .ok (.aload_n 0, 1) := by decide +kernel
theorem dX12_init_500 : decode cX12_init 500 = .ok (.bipush 20, 2) := by decide +kernel
theorem dX12_init_502 : decode cX12_init 502 = .ok (.newarray .int, 2) := by decide +kernel
theorem dX12_init_504 : decode cX12_init 504 = .ok (.putfield 197, 3) := by decide +kernel
theorem dX12_init_507 : decode cX12_init 507 = .ok (.aload_n 0, 1) := by decide +kernel
theorem dX12_init_508 : decode cX12_init 508 = .ok (.bipush 8, 2) := by decide +kernel
theorem dX12_init_510 : decode cX12_init 510 = .ok (.newarray .int, 2) := by decide +kernel
theorem dX12_init_512 : decode cX12_init 512 = .ok (.dup, 1) := by decide +kernel
theorem dX12_init_513 : decode cX12_init 513 = .ok (.iconst 0, 1) := by decide +kernel
theorem dX12_init_514 : decode cX12_init 514 = .ok (.iconst 1, 1) := by decide +kernel
theorem dX12_init_515 : decode cX12_init 515 = .ok (.iastore, 1) := by decide +kernel
theorem dX12_init_516 : decode cX12_init 516 = .ok (.dup, 1) := by decide +kernel
theorem dX12_init_517 : decode cX12_init 517 = .ok (.iconst 1, 1) := by decide +kernel
theorem dX12_init_518 : decode cX12_init 518 = .ok (.iconst 3, 1) := by decide +kernel
theorem dX12_init_519 : decode cX12_init 519 = .ok (.iastore, 1) := by decide +kernel
theorem dX12_init_520 : decode cX12_init 520 = .ok (.dup, 1) := by decide +kernel
theorem dX12_init_521 : decode cX12_init 521 = .ok (.iconst 2, 1) := by decide +kernel
theorem dX12_init_522 : decode cX12_init 522 = .ok (.bipush 9, 2) := by decide +kernel
theorem dX12_init_524 : decode cX12_init 524 = .ok (.iastore, 1) := by decide +kernel
theorem dX12_init_525 : decode cX12_init 525 = .ok (.dup, 1) := by decide +kernel
theorem dX12_init_526 : decode cX12_init 526 = .ok (.iconst 3, 1) := by decide +kernel
theorem dX12_init_527 : decode cX12_init 527 = .ok (.bipush 27, 2) := by decide +kernel
theorem dX12_init_529 : decode cX12_init 529 = .ok (.iastore, 1) := by decide +kernel
theorem dX12_init_530 : decode cX12_init 530 = .ok (.dup, 1) := by decide +kernel
theorem dX12_init_531 : decode cX12_init 531 = .ok (.iconst 4, 1) := by decide +kernel
theorem dX12_init_532 : decode cX12_init 532 = .ok (.bipush 81, 2) := by decide +kernel
theorem dX12_init_534 : decode cX12_init 534 = .ok (.iastore, 1) := by decide +kernel
theorem dX12_init_535 : decode cX12_init 535 = .ok (.dup, 1) := by decide +kernel
theorem dX12_init_536 : decode cX12_init 536 = .ok (.iconst 5, 1) := by decide +kernel
theorem dX12_init_537 : decode cX12_init 537 = .ok (.sipush 243, 3) := by decide +kernel
theorem dX12_init_540 : decode cX12_init 540 = .ok (.iastore, 1) := by decide +kernel
theorem dX12_init_541 : decode cX12_init 541 = .ok (.dup, 1) := by decide +kernel
theorem dX12_init_542 : decode cX12_init 542 = .ok (.bipush 6, 2) := by decide +kernel
theorem dX12_init_544 : decode cX12_init 544 = .ok (.sipush 729, 3) := by decide +kernel
theorem dX12_init_547 : decode cX12_init 547 = .ok (.iastore, 1) := by decide +kernel
theorem dX12_init_548 : decode cX12_init 548 = .ok (.dup, 1) := by decide +kernel
theorem dX12_init_549 : decode cX12_init 549 = .ok (.bipush 7, 2) := by decide +kernel
theorem dX12_init_551 : decode cX12_init 551 = .ok (.sipush 2187, 3) := by decide +kernel
theorem dX12_init_554 : decode cX12_init 554 = .ok (.iastore, 1) := by decide +kernel
theorem dX12_init_555 : decode cX12_init 555 = .ok (.putfield 200, 3) := by decide +kernel
theorem dX12_init_558 : decode cX12_init 558 = .ok (.aload_n 0, 1) := by decide +kernel
theorem dX12_init_559 : decode cX12_init 559 = .ok (.ldc 203, 2) := by decide +kernel
theorem dX12_init_561 : decode cX12_init 561 = .ok (.newarray .int, 2) := by decide +kernel
theorem dX12_init_563 : decode cX12_init 563 = .ok (.putfield 204, 3) := by decide +kernel
theorem dX12_init_566 : decode cX12_init 566 = .ok (.aload_n 0, 1) := by decide +kernel
theorem dX12_init_567 : decode cX12_init 567 = .ok (.bipush 8, 2) := by decide +kernel
theorem dX12_init_569 : decode cX12_init 569 = .ok (.newarray .int, 2) := by decide +kernel
theorem dX12_init_571 : decode cX12_init 571 = .ok (.putfield 207, 3) := by decide +kernel
theorem dX12_init_574 : decode cX12_init 574 = .ok (.aload_n 0, 1) := by decide +kernel
theorem dX12_init_575 : decode cX12_init 575 = .ok (.bipush 8, 2) := by decide +kernel
theorem dX12_init_577 : decode cX12_init 577 = .ok (.newarray .int, 2) := by decide +kernel
theorem dX12_init_579 : decode cX12_init 579 = .ok (.putfield 210, 3) := by decide +kernel
theorem dX12_init_582 : decode cX12_init 582 = .ok (.aload_n 0, 1) := by decide +kernel
theorem dX12_init_583 : decode cX12_init 583 = .ok (.bipush 64, 2) := by decide +kernel
theorem dX12_init_585 : decode cX12_init 585 = .ok (.newarray .int, 2) := by decide +kernel
theorem dX12_init_587 : decode cX12_init 587 = .ok (.putfield 213, 3) := by decide +kernel
theorem dX12_init_590 : decode cX12_init 590 = .ok (.aload_n 0, 1) := by decide +kernel
theorem dX12_init_591 : decode cX12_init 591 = .ok (.iconst (-1), 1) := by decide +kernel
theorem dX12_init_592 : decode cX12_init 592 = .ok (.putfield 216, 3) := by decide +kernel
theorem dX12_init_595 : decode cX12_init 595 = .ok (.aload_n 0, 1) := by decide +kernel
theorem dX12_init_596 : decode cX12_init 596 = .ok (.iconst 5, 1) := by decide +kernel
theorem dX12_init_597 : decode cX12_init 597 = .ok (.putfield 219, 3) := by decide +kernel
theorem dX12_init_600 : decode cX12_init 600 = .ok (.aload_n 0, 1) := by decide +kernel
theorem dX12_init_601 : decode cX12_init 601 = .ok (.bipush 20, 2) := by decide +kernel
theorem dX12_init_603 : decode cX12_init 603 = .ok (.putfield 222, 3) := by decide +kernel
theorem dX12_init_606 : decode cX12_init 606 = .ok (.aload_n 0, 1) := by decide +kernel
theorem dX12_init_607 : decode cX12_init 607 = .ok (.bipush 60, 2) := by decide +kernel
theorem dX12_init_609 : decode cX12_init 609 = .ok (.putfield 225, 3) := by decide +kernel
theorem dX12_init_612 : decode cX12_init 612 = .ok (.aload_n 0, 1) := by decide +kernel
theorem dX12_init_613 : decode cX12_init 613 = .ok (.bipush 30, 2) := by decide +kernel
theorem dX12_init_615 : decode cX12_init 615 = .ok (.putfield 228, 3) := by decide +kernel
theorem dX12_init_618 : decode cX12_init 618 = .ok (.aload_n 0, 1) := by decide +kernel
theorem dX12_init_619 : decode cX12_init 619 = .ok (.bipush 60, 2) := by decide +kernel
theorem dX12_init_621 : decode cX12_init 621 = .ok (.putfield 231, 3) := by decide +kernel
theorem dX12_init_624 : decode cX12_init 624 = .ok (.return_, 1) := by decide +kernel
theorem dX12_isLetter_0 : decode cX12_isLetter 0 = .ok (.iload_n 0, 1) := by decide +kernel
theorem dX12_isLetter_1 : decode cX12_isLetter 1 = .ok (.bipush 97, 2) := by decide +kernel
theorem dX12_isLetter_3 : decode cX12_isLetter 3 = .ok (.if_icmp .lt 13, 3) := by decide +kernel
theorem dX12_isLetter_6 : decode cX12_isLetter 6 = .ok (.iload_n 0, 1) := by decide +kernel
theorem dX12_isLetter_7 : decode cX12_isLetter 7 = .ok (.bipush 122, 2) := by decide +kernel
theorem dX12_isLetter_9 : decode cX12_isLetter 9 = .ok (.if_icmp .gt 7, 3) := by decide +kernel
theorem dX12_isLetter_12 : decode cX12_isLetter 12 = .ok (.iconst 1, 1) := by decide +kernel
theorem dX12_isLetter_13 : decode cX12_isLetter 13 = .ok (.goto 4, 3) := by decide +kernel
theorem dX12_isLetter_16 : decode cX12_isLetter 16 = .ok (.iconst 0, 1) := by decide +kernel
theorem dX12_isLetter_17 : decode cX12_isLetter 17 = .ok (.ireturn, 1) := by decide +kernel
theorem dX12_isDigit_0 : decode cX12_isDigit 0 = .ok (.iload_n 0, 1) := by decide +kernel
theorem dX12_isDigit_1 : decode cX12_isDigit 1 = .ok (.bipush 48, 2) := by decide +kernel
theorem dX12_isDigit_3 : decode cX12_isDigit 3 = .ok (.if_icmp .lt 13, 3) := by decide +kernel
theorem dX12_isDigit_6 : decode cX12_isDigit 6 = .ok (.iload_n 0, 1) := by decide +kernel
theorem dX12_isDigit_7 : decode cX12_isDigit 7 = .ok (.bipush 57, 2) := by decide +kernel
theorem dX12_isDigit_9 : decode cX12_isDigit 9 = .ok (.if_icmp .gt 7, 3) := by decide +kernel
theorem dX12_isDigit_12 : decode cX12_isDigit 12 = .ok (.iconst 1, 1) := by decide +kernel
theorem dX12_isDigit_13 : decode cX12_isDigit 13 = .ok (.goto 4, 3) := by decide +kernel
theorem dX12_isDigit_16 : decode cX12_isDigit 16 = .ok (.iconst 0, 1) := by decide +kernel
theorem dX12_isDigit_17 : decode cX12_isDigit 17 = .ok (.ireturn, 1) := by decide +kernel
theorem dX12_rank_0 : decode cX12_rank 0 = .ok (.iload_n 0, 1) := by decide +kernel
theorem dX12_rank_1 : decode cX12_rank 1 = .ok (.invokestatic 234, 3) := by decide +kernel
theorem dX12_rank_4 : decode cX12_rank 4 = .ok (.ifCond .eq 10, 3) := by decide +kernel
theorem dX12_rank_7 : decode cX12_rank 7 = .ok (.iload_n 0, 1) := by decide +kernel
theorem dX12_rank_8 : decode cX12_rank 8 = .ok (.bipush 96, 2) := by decide +kernel
theorem dX12_rank_10 : decode cX12_rank 10 = .ok (.isub, 1) := by decide +kernel
theorem dX12_rank_11 : decode cX12_rank 11 = .ok (.goto 7, 3) := by decide +kernel
theorem dX12_rank_14 : decode cX12_rank 14 = .ok (.iload_n 0, 1) := by decide +kernel
theorem dX12_rank_15 : decode cX12_rank 15 = .ok (.bipush 21, 2) := by decide +kernel
theorem dX12_rank_17 : decode cX12_rank 17 = .ok (.isub, 1) := by decide +kernel
theorem dX12_rank_18 : decode cX12_rank 18 = .ok (.ireturn, 1) := by decide +kernel
theorem dX12_isSignOf_0 : decode cX12_isSignOf 0 = .ok (.iload_n 0, 1) := by decide +kernel
theorem dX12_isSignOf_1 : decode cX12_isSignOf 1 = .ok (.bipush 40, 2) := by decide +kernel
theorem dX12_isSignOf_3 : decode cX12_isSignOf 3 = .ok (.if_icmp .eq 45, 3) := by decide +kernel
theorem dX12_isSignOf_6 : decode cX12_isSignOf 6 = .ok (.iload_n 0, 1) := by decide +kernel
theorem dX12_isSignOf_7 : decode cX12_isSignOf 7 = .ok (.bipush 41, 2) := by decide +kernel
theorem dX12_isSignOf_9 : decode cX12_isSignOf 9 = .ok (.if_icmp .eq 39, 3) := by decide +kernel
theorem dX12_isSignOf_12 : decode cX12_isSignOf 12 = .ok (.iload_n 0, 1) := by decide +kernel
theorem dX12_isSignOf_13 : decode cX12_isSignOf 13 = .ok (.bipush 59, 2) := by decide +kernel
theorem dX12_isSignOf_15 : decode cX12_isSignOf 15 = .ok (.if_icmp .eq 33, 3) := by decide +kernel
theorem dX12_isSignOf_18 : decode cX12_isSignOf 18 = .ok (.iload_n 0, 1) := by decide +kernel
theorem dX12_isSignOf_19 : decode cX12_isSignOf 19 = .ok (.bipush 61, 2) := by decide +kernel
theorem dX12_isSignOf_21 : decode cX12_isSignOf 21 = .ok (.if_icmp .eq 27, 3) := by decide +kernel
theorem dX12_isSignOf_24 : decode cX12_isSignOf 24 = .ok (.iload_n 0, 1) := by decide +kernel
theorem dX12_isSignOf_25 : decode cX12_isSignOf 25 = .ok (.bipush 60, 2) := by decide +kernel
theorem dX12_isSignOf_27 : decode cX12_isSignOf 27 = .ok (.if_icmp .eq 21, 3) := by decide +kernel
theorem dX12_isSignOf_30 : decode cX12_isSignOf 30 = .ok (.iload_n 0, 1) := by decide +kernel
theorem dX12_isSignOf_31 : decode cX12_isSignOf 31 = .ok (.bipush 43, 2) := by decide +kernel
theorem dX12_isSignOf_33 : decode cX12_isSignOf 33 = .ok (.if_icmp .eq 15, 3) := by decide +kernel
theorem dX12_isSignOf_36 : decode cX12_isSignOf 36 = .ok (.iload_n 0, 1) := by decide +kernel
theorem dX12_isSignOf_37 : decode cX12_isSignOf 37 = .ok (.bipush 45, 2) := by decide +kernel
theorem dX12_isSignOf_39 : decode cX12_isSignOf 39 = .ok (.if_icmp .eq 9, 3) := by decide +kernel
theorem dX12_isSignOf_42 : decode cX12_isSignOf 42 = .ok (.iload_n 0, 1) := by decide +kernel
theorem dX12_isSignOf_43 : decode cX12_isSignOf 43 = .ok (.bipush 42, 2) := by decide +kernel
theorem dX12_isSignOf_45 : decode cX12_isSignOf 45 = .ok (.if_icmp .ne 7, 3) := by decide +kernel
theorem dX12_isSignOf_48 : decode cX12_isSignOf 48 = .ok (.iconst 1, 1) := by decide +kernel
theorem dX12_isSignOf_49 : decode cX12_isSignOf 49 = .ok (.goto 4, 3) := by decide +kernel
theorem dX12_isSignOf_52 : decode cX12_isSignOf 52 = .ok (.iconst 0, 1) := by decide +kernel
theorem dX12_isSignOf_53 : decode cX12_isSignOf 53 = .ok (.ireturn, 1) := by decide +kernel
theorem dX12_cutAll_0 : decode cX12_cutAll 0 = .ok (.aload_n 0, 1) := by decide +kernel
theorem dX12_cutAll_1 : decode cX12_cutAll 1 = .ok (.aload_n 0, 1) := by decide +kernel
theorem dX12_cutAll_2 : decode cX12_cutAll 2 = .ok (.getfield 11, 3) := by decide +kernel
theorem dX12_cutAll_5 : decode cX12_cutAll 5 = .ok (.putfield 238, 3) := by decide +kernel
theorem dX12_cutAll_8 : decode cX12_cutAll 8 = .ok (.aload_n 0, 1) := by decide +kernel
theorem dX12_cutAll_9 : decode cX12_cutAll 9 = .ok (.iconst 0, 1) := by decide +kernel
theorem dX12_cutAll_10 : decode cX12_cutAll 10 = .ok (.putfield 11, 3) := by decide +kernel
theorem dX12_cutAll_13 : decode cX12_cutAll 13 = .ok (.iconst 0, 1) := by decide +kernel
theorem dX12_cutAll_14 : decode cX12_cutAll 14 = .ok (.istore_n 1, 1) := by decide +kernel
theorem dX12_cutAll_15 : decode cX12_cutAll 15 = .ok (.iconst 0, 1) := by decide +kernel
theorem dX12_cutAll_16 : decode cX12_cutAll 16 = .ok (.istore_n 2, 1) := by decide +kernel
theorem dX12_cutAll_17 : decode cX12_cutAll 17 = .ok (.iload_n 2, 1) := by decide +kernel
theorem dX12_cutAll_18 : decode cX12_cutAll 18 = .ok (.aload_n 0, 1) := by decide +kernel
theorem dX12_cutAll_19 : decode cX12_cutAll 19 = .ok (.getfield 238, 3) := by decide +kernel
theorem dX12_cutAll_22 : decode cX12_cutAll 22 = .ok (.if_icmp .ge 257, 3) := by decide +kernel
theorem dX12_cutAll_25 : decode cX12_cutAll 25 = .ok (.aload_n 0, 1) := by decide +kernel
theorem dX12_cutAll_26 : decode cX12_cutAll 26 = .ok (.getfield 14, 3) := by decide +kernel
theorem dX12_cutAll_29 : decode cX12_cutAll 29 = .ok (.iload_n 2, 1) := by decide +kernel
theorem dX12_cutAll_30 : decode cX12_cutAll 30 = .ok (.iaload, 1) := by decide +kernel
theorem dX12_cutAll_31 : decode cX12_cutAll 31 = .ok (.istore_n 3, 1) := by decide +kernel
theorem dX12_cutAll_32 : decode cX12_cutAll 32 = .ok (.iload_n 3, 1) := by decide +kernel
theorem dX12_cutAll_33 : decode cX12_cutAll 33 = .ok (.bipush 10, 2) := by decide +kernel
theorem dX12_cutAll_35 : decode cX12_cutAll 35 = .ok (.if_icmp .eq 9, 3) := by decide +kernel
theorem dX12_cutAll_38 : decode cX12_cutAll 38 = .ok (.iload_n 3, 1) := by decide +kernel
theorem dX12_cutAll_39 : decode cX12_cutAll 39 = .ok (.bipush 32, 2) := by decide +kernel
theorem dX12_cutAll_41 : decode cX12_cutAll 41 = .ok (.if_icmp .ne 9, 3) := by decide +kernel
theorem dX12_cutAll_44 : decode cX12_cutAll 44 = .ok (.iinc 2 1, 3) := by decide +kernel
theorem dX12_cutAll_47 : decode cX12_cutAll 47 = .ok (.goto (-30), 3) := by decide +kernel
theorem dX12_cutAll_50 : decode cX12_cutAll 50 = .ok (.iload_n 2, 1) := by decide +kernel
theorem dX12_cutAll_51 : decode cX12_cutAll 51 = .ok (.istore 4, 2) := by decide +kernel
theorem dX12_cutAll_53 : decode cX12_cutAll 53 = .ok (.lconst 0, 1) := by decide +kernel
theorem dX12_cutAll_54 : decode cX12_cutAll 54 = .ok (.lstore 5, 2) := by decide +kernel
theorem dX12_cutAll_56 : decode cX12_cutAll 56 = .ok (.aload_n 0, 1) := by decide +kernel
theorem dX12_cutAll_57 : decode cX12_cutAll 57 = .ok (.getfield 27, 3) := by decide +kernel
theorem dX12_cutAll_60 : decode cX12_cutAll 60 = .ok (.iload_n 1, 1) := by decide +kernel
theorem dX12_cutAll_61 : decode cX12_cutAll 61 = .ok (.iload_n 2, 1) := by decide +kernel
theorem dX12_cutAll_62 : decode cX12_cutAll 62 = .ok (.iastore, 1) := by decide +kernel
theorem dX12_cutAll_63 : decode cX12_cutAll 63 = .ok (.iload_n 3, 1) := by decide +kernel
theorem dX12_cutAll_64 : decode cX12_cutAll 64 = .ok (.invokestatic 234, 3) := by decide +kernel
theorem dX12_cutAll_67 : decode cX12_cutAll 67 = .ok (.ifCond .eq 85, 3) := by decide +kernel
theorem dX12_cutAll_70 : decode cX12_cutAll 70 = .ok (.iload_n 2, 1) := by decide +kernel
theorem dX12_cutAll_71 : decode cX12_cutAll 71 = .ok (.aload_n 0, 1) := by decide +kernel
theorem dX12_cutAll_72 : decode cX12_cutAll 72 = .ok (.getfield 238, 3) := by decide +kernel
theorem dX12_cutAll_75 : decode cX12_cutAll 75 = .ok (.if_icmp .ge 54, 3) := by decide +kernel
theorem dX12_cutAll_78 : decode cX12_cutAll 78 = .ok (.aload_n 0, 1) := by decide +kernel
theorem dX12_cutAll_79 : decode cX12_cutAll 79 = .ok (.getfield 14, 3) := by decide +kernel
theorem dX12_cutAll_82 : decode cX12_cutAll 82 = .ok (.iload_n 2, 1) := by decide +kernel
theorem dX12_cutAll_83 : decode cX12_cutAll 83 = .ok (.iaload, 1) := by decide +kernel
theorem dX12_cutAll_84 : decode cX12_cutAll 84 = .ok (.invokestatic 234, 3) := by decide +kernel
theorem dX12_cutAll_87 : decode cX12_cutAll 87 = .ok (.ifCond .eq 42, 3) := by decide +kernel
theorem dX12_cutAll_90 : decode cX12_cutAll 90 = .ok (.iload_n 2, 1) := by decide +kernel
theorem dX12_cutAll_91 : decode cX12_cutAll 91 = .ok (.iload 4, 2) := by decide +kernel
theorem dX12_cutAll_93 : decode cX12_cutAll 93 = .ok (.isub, 1) := by decide +kernel
theorem dX12_cutAll_94 : decode cX12_cutAll 94 = .ok (.bipush 8, 2) := by decide +kernel
theorem dX12_cutAll_96 : decode cX12_cutAll 96 = .ok (.if_icmp .ge 23, 3) := by decide +kernel
theorem dX12_cutAll_99 : decode cX12_cutAll 99 = .ok (.ldc2_w 241, 3) := by decide +kernel
theorem dX12_cutAll_102 : decode cX12_cutAll 102 = .ok (.lload 5, 2) := by decide +kernel
theorem dX12_cutAll_104 : decode cX12_cutAll 104 = .ok (.lmul, 1) := by decide +kernel
theorem dX12_cutAll_105 : decode cX12_cutAll 105 = .ok (.aload_n 0, 1) := by decide +kernel
theorem dX12_cutAll_106 : decode cX12_cutAll 106 = .ok (.getfield 14, 3) := by decide +kernel
theorem dX12_cutAll_109 : decode cX12_cutAll 109 = .ok (.iload_n 2, 1) := by decide +kernel
theorem dX12_cutAll_110 : decode cX12_cutAll 110 = .ok (.iaload, 1) := by decide +kernel
theorem dX12_cutAll_111 : decode cX12_cutAll 111 = .ok (.invokestatic 243, 3) := by decide +kernel
theorem dX12_cutAll_114 : decode cX12_cutAll 114 = .ok (.i2l, 1) := by decide +kernel
theorem dX12_cutAll_115 : decode cX12_cutAll 115 = .ok (.ladd, 1) := by decide +kernel
theorem dX12_cutAll_116 : decode cX12_cutAll 116 = .ok (.goto 5, 3) := by decide +kernel
theorem dX12_cutAll_119 : decode cX12_cutAll 119 = .ok (.lload 5, 2) := by decide +kernel
theorem dX12_cutAll_121 : decode cX12_cutAll 121 = .ok (.lstore 5, 2) := by decide +kernel
theorem dX12_cutAll_123 : decode cX12_cutAll 123 = .ok (.iinc 2 1, 3) := by decide +kernel
theorem dX12_cutAll_126 : decode cX12_cutAll 126 = .ok (.goto (-56), 3) := by decide +kernel
theorem dX12_cutAll_129 : decode cX12_cutAll 129 = .ok (.aload_n 0, 1) := by decide +kernel
theorem dX12_cutAll_130 : decode cX12_cutAll 130 = .ok (.getfield 24, 3) := by decide +kernel
theorem dX12_cutAll_133 : decode cX12_cutAll 133 = .ok (.iload_n 1, 1) := by decide +kernel
theorem dX12_cutAll_134 : decode cX12_cutAll 134 = .ok (.iload_n 2, 1) := by decide +kernel
theorem dX12_cutAll_135 : decode cX12_cutAll 135 = .ok (.iload 4, 2) := by decide +kernel
theorem dX12_cutAll_137 : decode cX12_cutAll 137 = .ok (.isub, 1) := by decide +kernel
theorem dX12_cutAll_138 : decode cX12_cutAll 138 = .ok (.bipush 8, 2) := by decide +kernel
theorem dX12_cutAll_140 : decode cX12_cutAll 140 = .ok (.if_icmp .le 7, 3) := by decide +kernel
theorem dX12_cutAll_143 : decode cX12_cutAll 143 = .ok (.iconst 4, 1) := by decide +kernel
theorem dX12_cutAll_144 : decode cX12_cutAll 144 = .ok (.goto 4, 3) := by decide +kernel
theorem dX12_cutAll_147 : decode cX12_cutAll 147 = .ok (.iconst 1, 1) := by decide +kernel
theorem dX12_cutAll_148 : decode cX12_cutAll 148 = .ok (.iastore, 1) := by decide +kernel
theorem dX12_cutAll_149 : decode cX12_cutAll 149 = .ok (.goto 116, 3) := by decide +kernel
theorem dX12_cutAll_152 : decode cX12_cutAll 152 = .ok (.iload_n 3, 1) := by decide +kernel
theorem dX12_cutAll_153 : decode cX12_cutAll 153 = .ok (.invokestatic 247, 3) := by decide +kernel
theorem dX12_cutAll_156 : decode cX12_cutAll 156 = .ok (.ifCond .eq 84, 3) := by decide +kernel
theorem dX12_cutAll_159 : decode cX12_cutAll 159 = .ok (.iload_n 2, 1) := by decide +kernel
theorem dX12_cutAll_160 : decode cX12_cutAll 160 = .ok (.aload_n 0, 1) := by decide +kernel
theorem dX12_cutAll_161 : decode cX12_cutAll 161 = .ok (.getfield 238, 3) := by decide +kernel
theorem dX12_cutAll_164 : decode cX12_cutAll 164 = .ok (.if_icmp .ge 54, 3) := by decide +kernel
theorem dX12_cutAll_167 : decode cX12_cutAll 167 = .ok (.aload_n 0, 1) := by decide +kernel
theorem dX12_cutAll_168 : decode cX12_cutAll 168 = .ok (.getfield 14, 3) := by decide +kernel
theorem dX12_cutAll_171 : decode cX12_cutAll 171 = .ok (.iload_n 2, 1) := by decide +kernel
theorem dX12_cutAll_172 : decode cX12_cutAll 172 = .ok (.iaload, 1) := by decide +kernel
theorem dX12_cutAll_173 : decode cX12_cutAll 173 = .ok (.invokestatic 247, 3) := by decide +kernel
theorem dX12_cutAll_176 : decode cX12_cutAll 176 = .ok (.ifCond .eq 42, 3) := by decide +kernel
theorem dX12_cutAll_179 : decode cX12_cutAll 179 = .ok (.iload_n 2, 1) := by decide +kernel
theorem dX12_cutAll_180 : decode cX12_cutAll 180 = .ok (.iload 4, 2) := by decide +kernel
theorem dX12_cutAll_182 : decode cX12_cutAll 182 = .ok (.isub, 1) := by decide +kernel
theorem dX12_cutAll_183 : decode cX12_cutAll 183 = .ok (.iconst 4, 1) := by decide +kernel
theorem dX12_cutAll_184 : decode cX12_cutAll 184 = .ok (.if_icmp .ge 24, 3) := by decide +kernel
theorem dX12_cutAll_187 : decode cX12_cutAll 187 = .ok (.ldc2_w 250, 3) := by decide +kernel
theorem dX12_cutAll_190 : decode cX12_cutAll 190 = .ok (.lload 5, 2) := by decide +kernel
theorem dX12_cutAll_192 : decode cX12_cutAll 192 = .ok (.lmul, 1) := by decide +kernel
theorem dX12_cutAll_193 : decode cX12_cutAll 193 = .ok (.aload_n 0, 1) := by decide +kernel
theorem dX12_cutAll_194 : decode cX12_cutAll 194 = .ok (.getfield 14, 3) := by decide +kernel
theorem dX12_cutAll_197 : decode cX12_cutAll 197 = .ok (.iload_n 2, 1) := by decide +kernel
theorem dX12_cutAll_198 : decode cX12_cutAll 198 = .ok (.iaload, 1) := by decide +kernel
theorem dX12_cutAll_199 : decode cX12_cutAll 199 = .ok (.i2l, 1) := by decide +kernel
theorem dX12_cutAll_200 : decode cX12_cutAll 200 = .ok (.ladd, 1) := by decide +kernel
theorem dX12_cutAll_201 : decode cX12_cutAll 201 = .ok (.ldc2_w 252, 3) := by decide +kernel
theorem dX12_cutAll_204 : decode cX12_cutAll 204 = .ok (.lsub, 1) := by decide +kernel
theorem dX12_cutAll_205 : decode cX12_cutAll 205 = .ok (.goto 5, 3) := by decide +kernel
theorem dX12_cutAll_208 : decode cX12_cutAll 208 = .ok (.lload 5, 2) := by decide +kernel
theorem dX12_cutAll_210 : decode cX12_cutAll 210 = .ok (.lstore 5, 2) := by decide +kernel
theorem dX12_cutAll_212 : decode cX12_cutAll 212 = .ok (.iinc 2 1, 3) := by decide +kernel
theorem dX12_cutAll_215 : decode cX12_cutAll 215 = .ok (.goto (-56), 3) := by decide +kernel
theorem dX12_cutAll_218 : decode cX12_cutAll 218 = .ok (.aload_n 0, 1) := by decide +kernel
theorem dX12_cutAll_219 : decode cX12_cutAll 219 = .ok (.getfield 24, 3) := by decide +kernel
theorem dX12_cutAll_222 : decode cX12_cutAll 222 = .ok (.iload_n 1, 1) := by decide +kernel
theorem dX12_cutAll_223 : decode cX12_cutAll 223 = .ok (.iload_n 2, 1) := by decide +kernel
theorem dX12_cutAll_224 : decode cX12_cutAll 224 = .ok (.iload 4, 2) := by decide +kernel
theorem dX12_cutAll_226 : decode cX12_cutAll 226 = .ok (.isub, 1) := by decide +kernel
theorem dX12_cutAll_227 : decode cX12_cutAll 227 = .ok (.iconst 4, 1) := by decide +kernel
theorem dX12_cutAll_228 : decode cX12_cutAll 228 = .ok (.if_icmp .le 7, 3) := by decide +kernel
theorem dX12_cutAll_231 : decode cX12_cutAll 231 = .ok (.iconst 4, 1) := by decide +kernel
theorem dX12_cutAll_232 : decode cX12_cutAll 232 = .ok (.goto 4, 3) := by decide +kernel
theorem dX12_cutAll_235 : decode cX12_cutAll 235 = .ok (.iconst 2, 1) := by decide +kernel
theorem dX12_cutAll_236 : decode cX12_cutAll 236 = .ok (.iastore, 1) := by decide +kernel
theorem dX12_cutAll_237 : decode cX12_cutAll 237 = .ok (.goto 28, 3) := by decide +kernel
theorem dX12_cutAll_240 : decode cX12_cutAll 240 = .ok (.iload_n 3, 1) := by decide +kernel
theorem dX12_cutAll_241 : decode cX12_cutAll 241 = .ok (.i2l, 1) := by decide +kernel
theorem dX12_cutAll_242 : decode cX12_cutAll 242 = .ok (.lstore 5, 2) := by decide +kernel
theorem dX12_cutAll_244 : decode cX12_cutAll 244 = .ok (.aload_n 0, 1) := by decide +kernel
theorem dX12_cutAll_245 : decode cX12_cutAll 245 = .ok (.getfield 24, 3) := by decide +kernel
theorem dX12_cutAll_248 : decode cX12_cutAll 248 = .ok (.iload_n 1, 1) := by decide +kernel
theorem dX12_cutAll_249 : decode cX12_cutAll 249 = .ok (.iload_n 3, 1) := by decide +kernel
theorem dX12_cutAll_250 : decode cX12_cutAll 250 = .ok (.invokestatic 254, 3) := by decide +kernel
theorem dX12_cutAll_253 : decode cX12_cutAll 253 = .ok (.ifCond .eq 7, 3) := by decide +kernel
theorem dX12_cutAll_256 : decode cX12_cutAll 256 = .ok (.iconst 3, 1) := by decide +kernel
theorem dX12_cutAll_257 : decode cX12_cutAll 257 = .ok (.goto 4, 3) := by decide +kernel
theorem dX12_cutAll_260 : decode cX12_cutAll 260 = .ok (.iconst 4, 1) := by decide +kernel
theorem dX12_cutAll_261 : decode cX12_cutAll 261 = .ok (.iastore, 1) := by decide +kernel
theorem dX12_cutAll_262 : decode cX12_cutAll 262 = .ok (.iinc 2 1, 3) := by decide +kernel
theorem dX12_cutAll_265 : decode cX12_cutAll 265 = .ok (.aload_n 0, 1) := by decide +kernel
theorem dX12_cutAll_266 : decode cX12_cutAll 266 = .ok (.getfield 30, 3) := by decide +kernel
theorem dX12_cutAll_269 : decode cX12_cutAll 269 = .ok (.iload_n 1, 1) := by decide +kernel
theorem dX12_cutAll_270 : decode cX12_cutAll 270 = .ok (.lload 5, 2) := by decide +kernel
theorem dX12_cutAll_272 : decode cX12_cutAll 272 = .ok (.lastore, 1) := by decide +kernel
theorem dX12_cutAll_273 : decode cX12_cutAll 273 = .ok (.iinc 1 1, 3) := by decide +kernel
theorem dX12_cutAll_276 : decode cX12_cutAll 276 = .ok (.goto (-259), 3) := by decide +kernel
theorem dX12_cutAll_279 : decode cX12_cutAll 279 = .ok (.aload_n 0, 1) := by decide +kernel
theorem dX12_cutAll_280 : decode cX12_cutAll 280 = .ok (.getfield 24, 3) := by decide +kernel
theorem dX12_cutAll_283 : decode cX12_cutAll 283 = .ok (.iload_n 1, 1) := by decide +kernel
theorem dX12_cutAll_284 : decode cX12_cutAll 284 = .ok (.iconst 0, 1) := by decide +kernel
theorem dX12_cutAll_285 : decode cX12_cutAll 285 = .ok (.iastore, 1) := by decide +kernel
theorem dX12_cutAll_286 : decode cX12_cutAll 286 = .ok (.aload_n 0, 1) := by decide +kernel
theorem dX12_cutAll_287 : decode cX12_cutAll 287 = .ok (.getfield 27, 3) := by decide +kernel
theorem dX12_cutAll_290 : decode cX12_cutAll 290 = .ok (.iload_n 1, 1) := by decide +kernel
theorem dX12_cutAll_291 : decode cX12_cutAll 291 = .ok (.aload_n 0, 1) := by decide +kernel
theorem dX12_cutAll_292 : decode cX12_cutAll 292 = .ok (.getfield 238, 3) := by decide +kernel
theorem dX12_cutAll_295 : decode cX12_cutAll 295 = .ok (.iastore, 1) := by decide +kernel
theorem dX12_cutAll_296 : decode cX12_cutAll 296 = .ok (.aload_n 0, 1) := by decide +kernel
theorem dX12_cutAll_297 : decode cX12_cutAll 297 = .ok (.iconst 0, 1) := by decide +kernel
theorem dX12_cutAll_298 : decode cX12_cutAll 298 = .ok (.putfield 257, 3) := by decide +kernel
theorem dX12_cutAll_301 : decode cX12_cutAll 301 = .ok (.aload_n 0, 1) := by decide +kernel
theorem dX12_cutAll_302 : decode cX12_cutAll 302 = .ok (.iconst 0, 1) := by decide +kernel
theorem dX12_cutAll_303 : decode cX12_cutAll 303 = .ok (.putfield 260, 3) := by decide +kernel
theorem dX12_cutAll_306 : decode cX12_cutAll 306 = .ok (.return_, 1) := by decide +kernel
theorem dX12_wrong_0 : decode cX12_wrong 0 = .ok (.aload_n 0, 1) := by decide +kernel
theorem dX12_wrong_1 : decode cX12_wrong 1 = .ok (.getfield 260, 3) := by decide +kernel
theorem dX12_wrong_4 : decode cX12_wrong 4 = .ok (.ifCond .ne 21, 3) := by decide +kernel
theorem dX12_wrong_7 : decode cX12_wrong 7 = .ok (.aload_n 0, 1) := by decide +kernel
theorem dX12_wrong_8 : decode cX12_wrong 8 = .ok (.iload_n 1, 1) := by decide +kernel
theorem dX12_wrong_9 : decode cX12_wrong 9 = .ok (.bipush 16, 2) := by decide +kernel
theorem dX12_wrong_11 : decode cX12_wrong 11 = .ok (.aload_n 0, 1) := by decide +kernel
theorem dX12_wrong_12 : decode cX12_wrong 12 = .ok (.getfield 27, 3) := by decide +kernel
theorem dX12_wrong_15 : decode cX12_wrong 15 = .ok (.aload_n 0, 1) := by decide +kernel
theorem dX12_wrong_16 : decode cX12_wrong 16 = .ok (.getfield 257, 3) := by decide +kernel
theorem dX12_wrong_19 : decode cX12_wrong 19 = .ok (.iaload, 1) := by decide +kernel
theorem dX12_wrong_20 : decode cX12_wrong 20 = .ok (.imul, 1) := by decide +kernel
theorem dX12_wrong_21 : decode cX12_wrong 21 = .ok (.iadd, 1) := by decide +kernel
theorem dX12_wrong_22 : decode cX12_wrong 22 = .ok (.putfield 260, 3) := by decide +kernel
theorem dX12_wrong_25 : decode cX12_wrong 25 = .ok (.return_, 1) := by decide +kernel
theorem dX12_isSign_0 : decode cX12_isSign 0 = .ok (.aload_n 0, 1) := by decide +kernel
theorem dX12_isSign_1 : decode cX12_isSign 1 = .ok (.getfield 260, 3) := by decide +kernel
theorem dX12_isSign_4 : decode cX12_isSign 4 = .ok (.ifCond .ne 35, 3) := by decide +kernel
theorem dX12_isSign_7 : decode cX12_isSign 7 = .ok (.aload_n 0, 1) := by decide +kernel
theorem dX12_isSign_8 : decode cX12_isSign 8 = .ok (.getfield 24, 3) := by decide +kernel
theorem dX12_isSign_11 : decode cX12_isSign 11 = .ok (.aload_n 0, 1) := by decide +kernel
theorem dX12_isSign_12 : decode cX12_isSign 12 = .ok (.getfield 257, 3) := by decide +kernel
theorem dX12_isSign_15 : decode cX12_isSign 15 = .ok (.iaload, 1) := by decide +kernel
theorem dX12_isSign_16 : decode cX12_isSign 16 = .ok (.iconst 3, 1) := by decide +kernel
theorem dX12_isSign_17 : decode cX12_isSign 17 = .ok (.if_icmp .ne 22, 3) := by decide +kernel
theorem dX12_isSign_20 : decode cX12_isSign 20 = .ok (.aload_n 0, 1) := by decide +kernel
theorem dX12_isSign_21 : decode cX12_isSign 21 = .ok (.getfield 30, 3) := by decide +kernel
theorem dX12_isSign_24 : decode cX12_isSign 24 = .ok (.aload_n 0, 1) := by decide +kernel
theorem dX12_isSign_25 : decode cX12_isSign 25 = .ok (.getfield 257, 3) := by decide +kernel
theorem dX12_isSign_28 : decode cX12_isSign 28 = .ok (.laload, 1) := by decide +kernel
theorem dX12_isSign_29 : decode cX12_isSign 29 = .ok (.iload_n 1, 1) := by decide +kernel
theorem dX12_isSign_30 : decode cX12_isSign 30 = .ok (.i2l, 1) := by decide +kernel
theorem dX12_isSign_31 : decode cX12_isSign 31 = .ok (.lcmp, 1) := by decide +kernel
theorem dX12_isSign_32 : decode cX12_isSign 32 = .ok (.ifCond .ne 7, 3) := by decide +kernel
theorem dX12_isSign_35 : decode cX12_isSign 35 = .ok (.iconst 1, 1) := by decide +kernel
theorem dX12_isSign_36 : decode cX12_isSign 36 = .ok (.goto 4, 3) := by decide +kernel
theorem dX12_isSign_39 : decode cX12_isSign 39 = .ok (.iconst 0, 1) := by decide +kernel
theorem dX12_isSign_40 : decode cX12_isSign 40 = .ok (.ireturn, 1) := by decide +kernel
theorem dX12_isWord_0 : decode cX12_isWord 0 = .ok (.aload_n 0, 1) := by decide +kernel
theorem dX12_isWord_1 : decode cX12_isWord 1 = .ok (.getfield 260, 3) := by decide +kernel
theorem dX12_isWord_4 : decode cX12_isWord 4 = .ok (.ifCond .ne 39, 3) := by decide +kernel
theorem dX12_isWord_7 : decode cX12_isWord 7 = .ok (.aload_n 0, 1) := by decide +kernel
theorem dX12_isWord_8 : decode cX12_isWord 8 = .ok (.getfield 24, 3) := by decide +kernel
theorem dX12_isWord_11 : decode cX12_isWord 11 = .ok (.aload_n 0, 1) := by decide +kernel
theorem dX12_isWord_12 : decode cX12_isWord 12 = .ok (.getfield 257, 3) := by decide +kernel
theorem dX12_isWord_15 : decode cX12_isWord 15 = .ok (.iaload, 1) := by decide +kernel
theorem dX12_isWord_16 : decode cX12_isWord 16 = .ok (.iconst 1, 1) := by decide +kernel
theorem dX12_isWord_17 : decode cX12_isWord 17 = .ok (.if_icmp .ne 26, 3) := by decide +kernel
theorem dX12_isWord_20 : decode cX12_isWord 20 = .ok (.aload_n 0, 1) := by decide +kernel
theorem dX12_isWord_21 : decode cX12_isWord 21 = .ok (.getfield 30, 3) := by decide +kernel
theorem dX12_isWord_24 : decode cX12_isWord 24 = .ok (.aload_n 0, 1) := by decide +kernel
theorem dX12_isWord_25 : decode cX12_isWord 25 = .ok (.getfield 257, 3) := by decide +kernel
theorem dX12_isWord_28 : decode cX12_isWord 28 = .ok (.laload, 1) := by decide +kernel
theorem dX12_isWord_29 : decode cX12_isWord 29 = .ok (.aload_n 0, 1) := by decide +kernel
theorem dX12_isWord_30 : decode cX12_isWord 30 = .ok (.getfield 64, 3) := by decide +kernel
theorem dX12_isWord_33 : decode cX12_isWord 33 = .ok (.iload_n 1, 1) := by decide +kernel
theorem dX12_isWord_34 : decode cX12_isWord 34 = .ok (.laload, 1) := by decide +kernel
theorem dX12_isWord_35 : decode cX12_isWord 35 = .ok (.lcmp, 1) := by decide +kernel
theorem dX12_isWord_36 : decode cX12_isWord 36 = .ok (.ifCond .ne 7, 3) := by decide +kernel
theorem dX12_isWord_39 : decode cX12_isWord 39 = .ok (.iconst 1, 1) := by decide +kernel
theorem dX12_isWord_40 : decode cX12_isWord 40 = .ok (.goto 4, 3) := by decide +kernel
theorem dX12_isWord_43 : decode cX12_isWord 43 = .ok (.iconst 0, 1) := by decide +kernel
theorem dX12_isWord_44 : decode cX12_isWord 44 = .ok (.ireturn, 1) := by decide +kernel
theorem dX12_takeSign_0 : decode cX12_takeSign 0 = .ok (.aload_n 0, 1) := by decide +kernel
theorem dX12_takeSign_1 : decode cX12_takeSign 1 = .ok (.iload_n 1, 1) := by decide +kernel
theorem dX12_takeSign_2 : decode cX12_takeSign 2 = .ok (.invokevirtual 263, 3) := by decide +kernel
theorem dX12_takeSign_5 : decode cX12_takeSign 5 = .ok (.ifCond .eq 16, 3) := by decide +kernel
theorem dX12_takeSign_8 : decode cX12_takeSign 8 = .ok (.aload_n 0, 1) := by decide +kernel
theorem dX12_takeSign_9 : decode cX12_takeSign 9 = .ok (.dup, 1) := by decide +kernel
theorem dX12_takeSign_10 : decode cX12_takeSign 10 = .ok (.getfield 257, 3) := by decide +kernel
theorem dX12_takeSign_13 : decode cX12_takeSign 13 = .ok (.iconst 1, 1) := by decide +kernel
theorem dX12_takeSign_14 : decode cX12_takeSign 14 = .ok (.iadd, 1) := by decide +kernel
theorem dX12_takeSign_15 : decode cX12_takeSign 15 = .ok (.putfield 257, 3) := by decide +kernel
theorem dX12_takeSign_18 : decode cX12_takeSign 18 = .ok (.goto 8, 3) := by decide +kernel
theorem dX12_takeSign_21 : decode cX12_takeSign 21 = .ok (.aload_n 0, 1) := by decide +kernel
theorem dX12_takeSign_22 : decode cX12_takeSign 22 = .ok (.iconst 1, 1) := by decide +kernel
theorem dX12_takeSign_23 : decode cX12_takeSign 23 = .ok (.invokevirtual 266, 3) := by decide +kernel
theorem dX12_takeSign_26 : decode cX12_takeSign 26 = .ok (.return_, 1) := by decide +kernel
theorem dX12_hasSign_0 : decode cX12_hasSign 0 = .ok (.aload_n 0, 1) := by decide +kernel
theorem dX12_hasSign_1 : decode cX12_hasSign 1 = .ok (.iload_n 1, 1) := by decide +kernel
theorem dX12_hasSign_2 : decode cX12_hasSign 2 = .ok (.invokevirtual 263, 3) := by decide +kernel
theorem dX12_hasSign_5 : decode cX12_hasSign 5 = .ok (.istore_n 2, 1) := by decide +kernel
theorem dX12_hasSign_6 : decode cX12_hasSign 6 = .ok (.aload_n 0, 1) := by decide +kernel
theorem dX12_hasSign_7 : decode cX12_hasSign 7 = .ok (.dup, 1) := by decide +kernel
theorem dX12_hasSign_8 : decode cX12_hasSign 8 = .ok (.getfield 257, 3) := by decide +kernel
theorem dX12_hasSign_11 : decode cX12_hasSign 11 = .ok (.iload_n 2, 1) := by decide +kernel
theorem dX12_hasSign_12 : decode cX12_hasSign 12 = .ok (.ifCond .eq 7, 3) := by decide +kernel
theorem dX12_hasSign_15 : decode cX12_hasSign 15 = .ok (.iconst 1, 1) := by decide +kernel
theorem dX12_hasSign_16 : decode cX12_hasSign 16 = .ok (.goto 4, 3) := by decide +kernel
theorem dX12_hasSign_19 : decode cX12_hasSign 19 = .ok (.iconst 0, 1) := by decide +kernel
theorem dX12_hasSign_20 : decode cX12_hasSign 20 = .ok (.iadd, 1) := by decide +kernel
theorem dX12_hasSign_21 : decode cX12_hasSign 21 = .ok (.putfield 257, 3) := by decide +kernel
theorem dX12_hasSign_24 : decode cX12_hasSign 24 = .ok (.iload_n 2, 1) := by decide +kernel
theorem dX12_hasSign_25 : decode cX12_hasSign 25 = .ok (.ireturn, 1) := by decide +kernel
theorem dX12_hasWord_0 : decode cX12_hasWord 0 = .ok (.aload_n 0, 1) := by decide +kernel
theorem dX12_hasWord_1 : decode cX12_hasWord 1 = .ok (.iload_n 1, 1) := by decide +kernel
theorem dX12_hasWord_2 : decode cX12_hasWord 2 = .ok (.invokevirtual 270, 3) := by decide +kernel
theorem dX12_hasWord_5 : decode cX12_hasWord 5 = .ok (.istore_n 2, 1) := by decide +kernel
theorem dX12_hasWord_6 : decode cX12_hasWord 6 = .ok (.aload_n 0, 1) := by decide +kernel
theorem dX12_hasWord_7 : decode cX12_hasWord 7 = .ok (.dup, 1) := by decide +kernel
theorem dX12_hasWord_8 : decode cX12_hasWord 8 = .ok (.getfield 257, 3) := by decide +kernel
theorem dX12_hasWord_11 : decode cX12_hasWord 11 = .ok (.iload_n 2, 1) := by decide +kernel
theorem dX12_hasWord_12 : decode cX12_hasWord 12 = .ok (.ifCond .eq 7, 3) := by decide +kernel
theorem dX12_hasWord_15 : decode cX12_hasWord 15 = .ok (.iconst 1, 1) := by decide +kernel
theorem dX12_hasWord_16 : decode cX12_hasWord 16 = .ok (.goto 4, 3) := by decide +kernel
theorem dX12_hasWord_19 : decode cX12_hasWord 19 = .ok (.iconst 0, 1) := by decide +kernel
theorem dX12_hasWord_20 : decode cX12_hasWord 20 = .ok (.iadd, 1) := by decide +kernel
theorem dX12_hasWord_21 : decode cX12_hasWord 21 = .ok (.putfield 257, 3) := by decide +kernel
theorem dX12_hasWord_24 : decode cX12_hasWord 24 = .ok (.iload_n 2, 1) := by decide +kernel
theorem dX12_hasWord_25 : decode cX12_hasWord 25 = .ok (.ireturn, 1) := by decide +kernel
theorem dX12_takeWord_0 : decode cX12_takeWord 0 = .ok (.aload_n 0, 1) := by decide +kernel
theorem dX12_takeWord_1 : decode cX12_takeWord 1 = .ok (.iload_n 1, 1) := by decide +kernel
theorem dX12_takeWord_2 : decode cX12_takeWord 2 = .ok (.invokevirtual 273, 3) := by decide +kernel
theorem dX12_takeWord_5 : decode cX12_takeWord 5 = .ok (.ifCond .ne 8, 3) := by decide +kernel
theorem dX12_takeWord_8 : decode cX12_takeWord 8 = .ok (.aload_n 0, 1) := by decide +kernel
theorem dX12_takeWord_9 : decode cX12_takeWord 9 = .ok (.iconst 1, 1) := by decide +kernel
theorem dX12_takeWord_10 : decode cX12_takeWord 10 = .ok (.invokevirtual 266, 3) := by decide +kernel
theorem dX12_takeWord_13 : decode cX12_takeWord 13 = .ok (.return_, 1) := by decide +kernel
theorem dX12_emit_0 : decode cX12_emit 0 = .ok (.aload_n 0, 1) := by decide +kernel
theorem dX12_emit_1 : decode cX12_emit 1 = .ok (.getfield 94, 3) := by decide +kernel
theorem dX12_emit_4 : decode cX12_emit 4 = .ok (.sipush 19200, 3) := by decide +kernel
theorem dX12_emit_7 : decode cX12_emit 7 = .ok (.aload_n 0, 1) := by decide +kernel
theorem dX12_emit_8 : decode cX12_emit 8 = .ok (.getfield 276, 3) := by decide +kernel
theorem dX12_emit_11 : decode cX12_emit 11 = .ok (.iadd, 1) := by decide +kernel
theorem dX12_emit_12 : decode cX12_emit 12 = .ok (.iload_n 1, 1) := by decide +kernel
theorem dX12_emit_13 : decode cX12_emit 13 = .ok (.iastore, 1) := by decide +kernel
theorem dX12_emit_14 : decode cX12_emit 14 = .ok (.aload_n 0, 1) := by decide +kernel
theorem dX12_emit_15 : decode cX12_emit 15 = .ok (.getfield 97, 3) := by decide +kernel
theorem dX12_emit_18 : decode cX12_emit 18 = .ok (.sipush 19200, 3) := by decide +kernel
theorem dX12_emit_21 : decode cX12_emit 21 = .ok (.aload_n 0, 1) := by decide +kernel
theorem dX12_emit_22 : decode cX12_emit 22 = .ok (.getfield 276, 3) := by decide +kernel
theorem dX12_emit_25 : decode cX12_emit 25 = .ok (.iadd, 1) := by decide +kernel
theorem dX12_emit_26 : decode cX12_emit 26 = .ok (.iload_n 2, 1) := by decide +kernel
theorem dX12_emit_27 : decode cX12_emit 27 = .ok (.iastore, 1) := by decide +kernel
theorem dX12_emit_28 : decode cX12_emit 28 = .ok (.aload_n 0, 1) := by decide +kernel
theorem dX12_emit_29 : decode cX12_emit 29 = .ok (.dup, 1) := by decide +kernel
theorem dX12_emit_30 : decode cX12_emit 30 = .ok (.getfield 276, 3) := by decide +kernel
theorem dX12_emit_33 : decode cX12_emit 33 = .ok (.iconst 1, 1) := by decide +kernel
theorem dX12_emit_34 : decode cX12_emit 34 = .ok (.iadd, 1) := by decide +kernel
theorem dX12_emit_35 : decode cX12_emit 35 = .ok (.putfield 276, 3) := by decide +kernel
theorem dX12_emit_38 : decode cX12_emit 38 = .ok (.return_, 1) := by decide +kernel
theorem dX12_brief_0 : decode cX12_brief 0 = .ok (.aload_n 0, 1) := by decide +kernel
theorem dX12_brief_1 : decode cX12_brief 1 = .ok (.iconst 0, 1) := by decide +kernel
theorem dX12_brief_2 : decode cX12_brief 2 = .ok (.putfield 1, 3) := by decide +kernel
theorem dX12_brief_5 : decode cX12_brief 5 = .ok (.iload_n 1, 1) := by decide +kernel
theorem dX12_brief_6 : decode cX12_brief 6 = .ok (.ifCond .lt 28, 3) := by decide +kernel
theorem dX12_brief_9 : decode cX12_brief 9 = .ok (.iload_n 1, 1) := by decide +kernel
theorem dX12_brief_10 : decode cX12_brief 10 = .ok (.iconst 3, 1) := by decide +kernel
theorem dX12_brief_11 : decode cX12_brief 11 = .ok (.if_icmp .gt 23, 3) := by decide +kernel
theorem dX12_brief_14 : decode cX12_brief 14 = .ok (.iload_n 2, 1) := by decide +kernel
theorem dX12_brief_15 : decode cX12_brief 15 = .ok (.ifCond .lt 19, 3) := by decide +kernel
theorem dX12_brief_18 : decode cX12_brief 18 = .ok (.iload_n 2, 1) := by decide +kernel
theorem dX12_brief_19 : decode cX12_brief 19 = .ok (.sipush 9999, 3) := by decide +kernel
theorem dX12_brief_22 : decode cX12_brief 22 = .ok (.if_icmp .gt 12, 3) := by decide +kernel
theorem dX12_brief_25 : decode cX12_brief 25 = .ok (.aload_n 0, 1) := by decide +kernel
theorem dX12_brief_26 : decode cX12_brief 26 = .ok (.getfield 279, 3) := by decide +kernel
theorem dX12_brief_29 : decode cX12_brief 29 = .ok (.bipush 16, 2) := by decide +kernel
theorem dX12_brief_31 : decode cX12_brief 31 = .ok (.if_icmp .ne 10, 3) := by decide +kernel
theorem dX12_brief_34 : decode cX12_brief 34 = .ok (.aload_n 0, 1) := by decide +kernel
theorem dX12_brief_35 : decode cX12_brief 35 = .ok (.iconst 0, 1) := by decide +kernel
theorem dX12_brief_36 : decode cX12_brief 36 = .ok (.putfield 11, 3) := by decide +kernel
theorem dX12_brief_39 : decode cX12_brief 39 = .ok (.iconst (-1), 1) := by decide +kernel
theorem dX12_brief_40 : decode cX12_brief 40 = .ok (.ireturn, 1) := by decide +kernel
theorem dX12_brief_41 : decode cX12_brief 41 = .ok (.aload_n 0, 1) := by decide +kernel
theorem dX12_brief_42 : decode cX12_brief 42 = .ok (.invokevirtual 282, 3) := by decide +kernel
theorem dX12_brief_45 : decode cX12_brief 45 = .ok (.aload_n 0, 1) := by decide +kernel
theorem dX12_brief_46 : decode cX12_brief 46 = .ok (.iconst 0, 1) := by decide +kernel
theorem dX12_brief_47 : decode cX12_brief 47 = .ok (.putfield 276, 3) := by decide +kernel
theorem dX12_brief_50 : decode cX12_brief 50 = .ok (.aload_n 0, 1) := by decide +kernel
theorem dX12_brief_51 : decode cX12_brief 51 = .ok (.iconst 0, 1) := by decide +kernel
theorem dX12_brief_52 : decode cX12_brief 52 = .ok (.putfield 285, 3) := by decide +kernel
theorem dX12_brief_55 : decode cX12_brief 55 = .ok (.aload_n 0, 1) := by decide +kernel
theorem dX12_brief_56 : decode cX12_brief 56 = .ok (.getfield 76, 3) := by decide +kernel
theorem dX12_brief_59 : decode cX12_brief 59 = .ok (.bipush 16, 2) := by decide +kernel
theorem dX12_brief_61 : decode cX12_brief 61 = .ok (.iconst 0, 1) := by decide +kernel
theorem dX12_brief_62 : decode cX12_brief 62 = .ok (.iastore, 1) := by decide +kernel
theorem dX12_brief_63 : decode cX12_brief 63 = .ok (.aload_n 0, 1) := by decide +kernel
theorem dX12_brief_64 : decode cX12_brief 64 = .ok (.getfield 260, 3) := by decide +kernel
theorem dX12_brief_67 : decode cX12_brief 67 = .ok (.ifCond .ne 22, 3) := by decide +kernel
theorem dX12_brief_70 : decode cX12_brief 70 = .ok (.aload_n 0, 1) := by decide +kernel
theorem dX12_brief_71 : decode cX12_brief 71 = .ok (.getfield 24, 3) := by decide +kernel
theorem dX12_brief_74 : decode cX12_brief 74 = .ok (.aload_n 0, 1) := by decide +kernel
theorem dX12_brief_75 : decode cX12_brief 75 = .ok (.getfield 257, 3) := by decide +kernel
theorem dX12_brief_78 : decode cX12_brief 78 = .ok (.iaload, 1) := by decide +kernel
theorem dX12_brief_79 : decode cX12_brief 79 = .ok (.ifCond .eq 10, 3) := by decide +kernel
theorem dX12_brief_82 : decode cX12_brief 82 = .ok (.aload_n 0, 1) := by decide +kernel
theorem dX12_brief_83 : decode cX12_brief 83 = .ok (.invokevirtual 288, 3) := by decide +kernel
theorem dX12_brief_86 : decode cX12_brief 86 = .ok (.goto (-23), 3) := by decide +kernel
theorem dX12_brief_89 : decode cX12_brief 89 = .ok (.aload_n 0, 1) := by decide +kernel
theorem dX12_brief_90 : decode cX12_brief 90 = .ok (.getfield 260, 3) := by decide +kernel
theorem dX12_brief_93 : decode cX12_brief 93 = .ok (.ifCond .ne 9, 3) := by decide +kernel
theorem dX12_brief_96 : decode cX12_brief 96 = .ok (.aload_n 0, 1) := by decide +kernel
theorem dX12_brief_97 : decode cX12_brief 97 = .ok (.iload_n 1, 1) := by decide +kernel
theorem dX12_brief_98 : decode cX12_brief 98 = .ok (.iload_n 2, 1) := by decide +kernel
theorem dX12_brief_99 : decode cX12_brief 99 = .ok (.invokevirtual 291, 3) := by decide +kernel
theorem dX12_brief_102 : decode cX12_brief 102 = .ok (.aload_n 0, 1) := by decide +kernel
theorem dX12_brief_103 : decode cX12_brief 103 = .ok (.getfield 260, 3) := by decide +kernel
theorem dX12_brief_106 : decode cX12_brief 106 = .ok (.ireturn, 1) := by decide +kernel
theorem dX12_keeps_0 : decode cX12_keeps 0 = .ok (.aload_n 0, 1) := by decide +kernel
theorem dX12_keeps_1 : decode cX12_keeps 1 = .ok (.getfield 279, 3) := by decide +kernel
theorem dX12_keeps_4 : decode cX12_keeps 4 = .ok (.istore_n 3, 1) := by decide +kernel
theorem dX12_keeps_5 : decode cX12_keeps 5 = .ok (.aload_n 0, 1) := by decide +kernel
theorem dX12_keeps_6 : decode cX12_keeps 6 = .ok (.getfield 67, 3) := by decide +kernel
theorem dX12_keeps_9 : decode cX12_keeps 9 = .ok (.iload_n 3, 1) := by decide +kernel
theorem dX12_keeps_10 : decode cX12_keeps 10 = .ok (.iload_n 1, 1) := by decide +kernel
theorem dX12_keeps_11 : decode cX12_keeps 11 = .ok (.iastore, 1) := by decide +kernel
theorem dX12_keeps_12 : decode cX12_keeps 12 = .ok (.aload_n 0, 1) := by decide +kernel
theorem dX12_keeps_13 : decode cX12_keeps 13 = .ok (.getfield 70, 3) := by decide +kernel
theorem dX12_keeps_16 : decode cX12_keeps 16 = .ok (.iload_n 3, 1) := by decide +kernel
theorem dX12_keeps_17 : decode cX12_keeps 17 = .ok (.iload_n 2, 1) := by decide +kernel
theorem dX12_keeps_18 : decode cX12_keeps 18 = .ok (.iastore, 1) := by decide +kernel
theorem dX12_keeps_19 : decode cX12_keeps 19 = .ok (.aload_n 0, 1) := by decide +kernel
theorem dX12_keeps_20 : decode cX12_keeps 20 = .ok (.getfield 73, 3) := by decide +kernel
theorem dX12_keeps_23 : decode cX12_keeps 23 = .ok (.iload_n 3, 1) := by decide +kernel
theorem dX12_keeps_24 : decode cX12_keeps 24 = .ok (.aload_n 0, 1) := by decide +kernel
theorem dX12_keeps_25 : decode cX12_keeps 25 = .ok (.getfield 295, 3) := by decide +kernel
theorem dX12_keeps_28 : decode cX12_keeps 28 = .ok (.iastore, 1) := by decide +kernel
theorem dX12_keeps_29 : decode cX12_keeps 29 = .ok (.aload_n 0, 1) := by decide +kernel
theorem dX12_keeps_30 : decode cX12_keeps 30 = .ok (.getfield 76, 3) := by decide +kernel
theorem dX12_keeps_33 : decode cX12_keeps 33 = .ok (.iload_n 3, 1) := by decide +kernel
theorem dX12_keeps_34 : decode cX12_keeps 34 = .ok (.aload_n 0, 1) := by decide +kernel
theorem dX12_keeps_35 : decode cX12_keeps 35 = .ok (.getfield 76, 3) := by decide +kernel
theorem dX12_keeps_38 : decode cX12_keeps 38 = .ok (.bipush 16, 2) := by decide +kernel
theorem dX12_keeps_40 : decode cX12_keeps 40 = .ok (.iaload, 1) := by decide +kernel
theorem dX12_keeps_41 : decode cX12_keeps 41 = .ok (.iastore, 1) := by decide +kernel
theorem dX12_keeps_42 : decode cX12_keeps 42 = .ok (.iconst 0, 1) := by decide +kernel
theorem dX12_keeps_43 : decode cX12_keeps 43 = .ok (.istore 4, 2) := by decide +kernel
theorem dX12_keeps_45 : decode cX12_keeps 45 = .ok (.iload 4, 2) := by decide +kernel
theorem dX12_keeps_47 : decode cX12_keeps 47 = .ok (.aload_n 0, 1) := by decide +kernel
theorem dX12_keeps_48 : decode cX12_keeps 48 = .ok (.getfield 76, 3) := by decide +kernel
theorem dX12_keeps_51 : decode cX12_keeps 51 = .ok (.bipush 16, 2) := by decide +kernel
theorem dX12_keeps_53 : decode cX12_keeps 53 = .ok (.iaload, 1) := by decide +kernel
theorem dX12_keeps_54 : decode cX12_keeps 54 = .ok (.if_icmp .ge 121, 3) := by decide +kernel
theorem dX12_keeps_57 : decode cX12_keeps 57 = .ok (.aload_n 0, 1) := by decide +kernel
theorem dX12_keeps_58 : decode cX12_keeps 58 = .ok (.getfield 79, 3) := by decide +kernel
theorem dX12_keeps_61 : decode cX12_keeps 61 = .ok (.bipush 16, 2) := by decide +kernel
theorem dX12_keeps_63 : decode cX12_keeps 63 = .ok (.iload_n 3, 1) := by decide +kernel
theorem dX12_keeps_64 : decode cX12_keeps 64 = .ok (.imul, 1) := by decide +kernel
theorem dX12_keeps_65 : decode cX12_keeps 65 = .ok (.iload 4, 2) := by decide +kernel
theorem dX12_keeps_67 : decode cX12_keeps 67 = .ok (.iadd, 1) := by decide +kernel
theorem dX12_keeps_68 : decode cX12_keeps 68 = .ok (.aload_n 0, 1) := by decide +kernel
theorem dX12_keeps_69 : decode cX12_keeps 69 = .ok (.getfield 79, 3) := by decide +kernel
theorem dX12_keeps_72 : decode cX12_keeps 72 = .ok (.sipush 256, 3) := by decide +kernel
theorem dX12_keeps_75 : decode cX12_keeps 75 = .ok (.iload 4, 2) := by decide +kernel
theorem dX12_keeps_77 : decode cX12_keeps 77 = .ok (.iadd, 1) := by decide +kernel
theorem dX12_keeps_78 : decode cX12_keeps 78 = .ok (.iaload, 1) := by decide +kernel
theorem dX12_keeps_79 : decode cX12_keeps 79 = .ok (.iastore, 1) := by decide +kernel
theorem dX12_keeps_80 : decode cX12_keeps 80 = .ok (.aload_n 0, 1) := by decide +kernel
theorem dX12_keeps_81 : decode cX12_keeps 81 = .ok (.getfield 82, 3) := by decide +kernel
theorem dX12_keeps_84 : decode cX12_keeps 84 = .ok (.bipush 16, 2) := by decide +kernel
theorem dX12_keeps_86 : decode cX12_keeps 86 = .ok (.iload_n 3, 1) := by decide +kernel
theorem dX12_keeps_87 : decode cX12_keeps 87 = .ok (.imul, 1) := by decide +kernel
theorem dX12_keeps_88 : decode cX12_keeps 88 = .ok (.iload 4, 2) := by decide +kernel
theorem dX12_keeps_90 : decode cX12_keeps 90 = .ok (.iadd, 1) := by decide +kernel
theorem dX12_keeps_91 : decode cX12_keeps 91 = .ok (.aload_n 0, 1) := by decide +kernel
theorem dX12_keeps_92 : decode cX12_keeps 92 = .ok (.getfield 82, 3) := by decide +kernel
theorem dX12_keeps_95 : decode cX12_keeps 95 = .ok (.sipush 256, 3) := by decide +kernel
theorem dX12_keeps_98 : decode cX12_keeps 98 = .ok (.iload 4, 2) := by decide +kernel
theorem dX12_keeps_100 : decode cX12_keeps 100 = .ok (.iadd, 1) := by decide +kernel
theorem dX12_keeps_101 : decode cX12_keeps 101 = .ok (.iaload, 1) := by decide +kernel
theorem dX12_keeps_102 : decode cX12_keeps 102 = .ok (.iastore, 1) := by decide +kernel
theorem dX12_keeps_103 : decode cX12_keeps 103 = .ok (.aload_n 0, 1) := by decide +kernel
theorem dX12_keeps_104 : decode cX12_keeps 104 = .ok (.getfield 85, 3) := by decide +kernel
theorem dX12_keeps_107 : decode cX12_keeps 107 = .ok (.bipush 16, 2) := by decide +kernel
theorem dX12_keeps_109 : decode cX12_keeps 109 = .ok (.iload_n 3, 1) := by decide +kernel
theorem dX12_keeps_110 : decode cX12_keeps 110 = .ok (.imul, 1) := by decide +kernel
theorem dX12_keeps_111 : decode cX12_keeps 111 = .ok (.iload 4, 2) := by decide +kernel
theorem dX12_keeps_113 : decode cX12_keeps 113 = .ok (.iadd, 1) := by decide +kernel
theorem dX12_keeps_114 : decode cX12_keeps 114 = .ok (.aload_n 0, 1) := by decide +kernel
theorem dX12_keeps_115 : decode cX12_keeps 115 = .ok (.getfield 85, 3) := by decide +kernel
theorem dX12_keeps_118 : decode cX12_keeps 118 = .ok (.sipush 256, 3) := by decide +kernel
theorem dX12_keeps_121 : decode cX12_keeps 121 = .ok (.iload 4, 2) := by decide +kernel
theorem dX12_keeps_123 : decode cX12_keeps 123 = .ok (.iadd, 1) := by decide +kernel
theorem dX12_keeps_124 : decode cX12_keeps 124 = .ok (.iaload, 1) := by decide +kernel
theorem dX12_keeps_125 : decode cX12_keeps 125 = .ok (.sipush 19200, 3) := by decide +kernel
theorem dX12_keeps_128 : decode cX12_keeps 128 = .ok (.isub, 1) := by decide +kernel
theorem dX12_keeps_129 : decode cX12_keeps 129 = .ok (.sipush 1200, 3) := by decide +kernel
theorem dX12_keeps_132 : decode cX12_keeps 132 = .ok (.iload_n 3, 1) := by decide +kernel
theorem dX12_keeps_133 : decode cX12_keeps 133 = .ok (.imul, 1) := by decide +kernel
theorem dX12_keeps_134 : decode cX12_keeps 134 = .ok (.iadd, 1) := by decide +kernel
theorem dX12_keeps_135 : decode cX12_keeps 135 = .ok (.iastore, 1) := by decide +kernel
theorem dX12_keeps_136 : decode cX12_keeps 136 = .ok (.aload_n 0, 1) := by decide +kernel
theorem dX12_keeps_137 : decode cX12_keeps 137 = .ok (.getfield 88, 3) := by decide +kernel
theorem dX12_keeps_140 : decode cX12_keeps 140 = .ok (.bipush 16, 2) := by decide +kernel
theorem dX12_keeps_142 : decode cX12_keeps 142 = .ok (.iload_n 3, 1) := by decide +kernel
theorem dX12_keeps_143 : decode cX12_keeps 143 = .ok (.imul, 1) := by decide +kernel
theorem dX12_keeps_144 : decode cX12_keeps 144 = .ok (.iload 4, 2) := by decide +kernel
theorem dX12_keeps_146 : decode cX12_keeps 146 = .ok (.iadd, 1) := by decide +kernel
theorem dX12_keeps_147 : decode cX12_keeps 147 = .ok (.aload_n 0, 1) := by decide +kernel
theorem dX12_keeps_148 : decode cX12_keeps 148 = .ok (.getfield 88, 3) := by decide +kernel
theorem dX12_keeps_151 : decode cX12_keeps 151 = .ok (.sipush 256, 3) := by decide +kernel
theorem dX12_keeps_154 : decode cX12_keeps 154 = .ok (.iload 4, 2) := by decide +kernel
theorem dX12_keeps_156 : decode cX12_keeps 156 = .ok (.iadd, 1) := by decide +kernel
theorem dX12_keeps_157 : decode cX12_keeps 157 = .ok (.iaload, 1) := by decide +kernel
theorem dX12_keeps_158 : decode cX12_keeps 158 = .ok (.sipush 19200, 3) := by decide +kernel
theorem dX12_keeps_161 : decode cX12_keeps 161 = .ok (.isub, 1) := by decide +kernel
theorem dX12_keeps_162 : decode cX12_keeps 162 = .ok (.sipush 1200, 3) := by decide +kernel
theorem dX12_keeps_165 : decode cX12_keeps 165 = .ok (.iload_n 3, 1) := by decide +kernel
theorem dX12_keeps_166 : decode cX12_keeps 166 = .ok (.imul, 1) := by decide +kernel
theorem dX12_keeps_167 : decode cX12_keeps 167 = .ok (.iadd, 1) := by decide +kernel
theorem dX12_keeps_168 : decode cX12_keeps 168 = .ok (.iastore, 1) := by decide +kernel
theorem dX12_keeps_169 : decode cX12_keeps 169 = .ok (.iinc 4 1, 3) := by decide +kernel
theorem dX12_keeps_172 : decode cX12_keeps 172 = .ok (.goto (-127), 3) := by decide +kernel
theorem dX12_keeps_175 : decode cX12_keeps 175 = .ok (.iconst 0, 1) := by decide +kernel
theorem dX12_keeps_176 : decode cX12_keeps 176 = .ok (.istore 4, 2) := by decide +kernel
theorem dX12_keeps_178 : decode cX12_keeps 178 = .ok (.iload 4, 2) := by decide +kernel
theorem dX12_keeps_180 : decode cX12_keeps 180 = .ok (.aload_n 0, 1) := by decide +kernel
theorem dX12_keeps_181 : decode cX12_keeps 181 = .ok (.getfield 276, 3) := by decide +kernel
theorem dX12_keeps_184 : decode cX12_keeps 184 = .ok (.if_icmp .ge 57, 3) := by decide +kernel
theorem dX12_keeps_187 : decode cX12_keeps 187 = .ok (.aload_n 0, 1) := by decide +kernel
theorem dX12_keeps_188 : decode cX12_keeps 188 = .ok (.getfield 94, 3) := by decide +kernel
theorem dX12_keeps_191 : decode cX12_keeps 191 = .ok (.sipush 1200, 3) := by decide +kernel
theorem dX12_keeps_194 : decode cX12_keeps 194 = .ok (.iload_n 3, 1) := by decide +kernel
theorem dX12_keeps_195 : decode cX12_keeps 195 = .ok (.imul, 1) := by decide +kernel
theorem dX12_keeps_196 : decode cX12_keeps 196 = .ok (.iload 4, 2) := by decide +kernel
theorem dX12_keeps_198 : decode cX12_keeps 198 = .ok (.iadd, 1) := by decide +kernel
theorem dX12_keeps_199 : decode cX12_keeps 199 = .ok (.aload_n 0, 1) := by decide +kernel
theorem dX12_keeps_200 : decode cX12_keeps 200 = .ok (.getfield 94, 3) := by decide +kernel
theorem dX12_keeps_203 : decode cX12_keeps 203 = .ok (.sipush 19200, 3) := by decide +kernel
theorem dX12_keeps_206 : decode cX12_keeps 206 = .ok (.iload 4, 2) := by decide +kernel
theorem dX12_keeps_208 : decode cX12_keeps 208 = .ok (.iadd, 1) := by decide +kernel
theorem dX12_keeps_209 : decode cX12_keeps 209 = .ok (.iaload, 1) := by decide +kernel
theorem dX12_keeps_210 : decode cX12_keeps 210 = .ok (.iastore, 1) := by decide +kernel
theorem dX12_keeps_211 : decode cX12_keeps 211 = .ok (.aload_n 0, 1) := by decide +kernel
theorem dX12_keeps_212 : decode cX12_keeps 212 = .ok (.getfield 97, 3) := by decide +kernel
theorem dX12_keeps_215 : decode cX12_keeps 215 = .ok (.sipush 1200, 3) := by decide +kernel
theorem dX12_keeps_218 : decode cX12_keeps 218 = .ok (.iload_n 3, 1) := by decide +kernel
theorem dX12_keeps_219 : decode cX12_keeps 219 = .ok (.imul, 1) := by decide +kernel
theorem dX12_keeps_220 : decode cX12_keeps 220 = .ok (.iload 4, 2) := by decide +kernel
theorem dX12_keeps_222 : decode cX12_keeps 222 = .ok (.iadd, 1) := by decide +kernel
theorem dX12_keeps_223 : decode cX12_keeps 223 = .ok (.aload_n 0, 1) := by decide +kernel
theorem dX12_keeps_224 : decode cX12_keeps 224 = .ok (.getfield 97, 3) := by decide +kernel
theorem dX12_keeps_227 : decode cX12_keeps 227 = .ok (.sipush 19200, 3) := by decide +kernel
theorem dX12_keeps_230 : decode cX12_keeps 230 = .ok (.iload 4, 2) := by decide +kernel
theorem dX12_keeps_232 : decode cX12_keeps 232 = .ok (.iadd, 1) := by decide +kernel
theorem dX12_keeps_233 : decode cX12_keeps 233 = .ok (.iaload, 1) := by decide +kernel
theorem dX12_keeps_234 : decode cX12_keeps 234 = .ok (.iastore, 1) := by decide +kernel
theorem dX12_keeps_235 : decode cX12_keeps 235 = .ok (.iinc 4 1, 3) := by decide +kernel
theorem dX12_keeps_238 : decode cX12_keeps 238 = .ok (.goto (-60), 3) := by decide +kernel
theorem dX12_keeps_241 : decode cX12_keeps 241 = .ok (.aload_n 0, 1) := by decide +kernel
theorem dX12_keeps_242 : decode cX12_keeps 242 = .ok (.dup, 1) := by decide +kernel
theorem dX12_keeps_243 : decode cX12_keeps 243 = .ok (.getfield 279, 3) := by decide +kernel
theorem dX12_keeps_246 : decode cX12_keeps 246 = .ok (.iconst 1, 1) := by decide +kernel
theorem dX12_keeps_247 : decode cX12_keeps 247 = .ok (.iadd, 1) := by decide +kernel
theorem dX12_keeps_248 : decode cX12_keeps 248 = .ok (.putfield 279, 3) := by decide +kernel
theorem dX12_keeps_251 : decode cX12_keeps 251 = .ok (.return_, 1) := by decide +kernel
theorem dX12_takeNumber_0 : decode cX12_takeNumber 0 = .ok (.aload_n 0, 1) := by decide +kernel
theorem dX12_takeNumber_1 : decode cX12_takeNumber 1 = .ok (.getfield 260, 3) := by decide +kernel
theorem dX12_takeNumber_4 : decode cX12_takeNumber 4 = .ok (.ifCond .ne 24, 3) := by decide +kernel
theorem dX12_takeNumber_7 : decode cX12_takeNumber 7 = .ok (.aload_n 0, 1) := by decide +kernel
theorem dX12_takeNumber_8 : decode cX12_takeNumber 8 = .ok (.getfield 24, 3) := by decide +kernel
theorem dX12_takeNumber_11 : decode cX12_takeNumber 11 = .ok (.aload_n 0, 1) := by decide +kernel
theorem dX12_takeNumber_12 : decode cX12_takeNumber 12 = .ok (.getfield 257, 3) := by decide +kernel
theorem dX12_takeNumber_15 : decode cX12_takeNumber 15 = .ok (.iaload, 1) := by decide +kernel
theorem dX12_takeNumber_16 : decode cX12_takeNumber 16 = .ok (.iconst 2, 1) := by decide +kernel
theorem dX12_takeNumber_17 : decode cX12_takeNumber 17 = .ok (.if_icmp .eq 11, 3) := by decide +kernel
theorem dX12_takeNumber_20 : decode cX12_takeNumber 20 = .ok (.aload_n 0, 1) := by decide +kernel
theorem dX12_takeNumber_21 : decode cX12_takeNumber 21 = .ok (.iconst 1, 1) := by decide +kernel
theorem dX12_takeNumber_22 : decode cX12_takeNumber 22 = .ok (.invokevirtual 266, 3) := by decide +kernel
theorem dX12_takeNumber_25 : decode cX12_takeNumber 25 = .ok (.goto 30, 3) := by decide +kernel
theorem dX12_takeNumber_28 : decode cX12_takeNumber 28 = .ok (.aload_n 0, 1) := by decide +kernel
theorem dX12_takeNumber_29 : decode cX12_takeNumber 29 = .ok (.getfield 260, 3) := by decide +kernel
theorem dX12_takeNumber_32 : decode cX12_takeNumber 32 = .ok (.ifCond .ne 23, 3) := by decide +kernel
theorem dX12_takeNumber_35 : decode cX12_takeNumber 35 = .ok (.aload_n 0, 1) := by decide +kernel
theorem dX12_takeNumber_36 : decode cX12_takeNumber 36 = .ok (.getfield 30, 3) := by decide +kernel
theorem dX12_takeNumber_39 : decode cX12_takeNumber 39 = .ok (.aload_n 0, 1) := by decide +kernel
theorem dX12_takeNumber_40 : decode cX12_takeNumber 40 = .ok (.getfield 257, 3) := by decide +kernel
theorem dX12_takeNumber_43 : decode cX12_takeNumber 43 = .ok (.laload, 1) := by decide +kernel
theorem dX12_takeNumber_44 : decode cX12_takeNumber 44 = .ok (.iload_n 1, 1) := by decide +kernel
theorem dX12_takeNumber_45 : decode cX12_takeNumber 45 = .ok (.i2l, 1) := by decide +kernel
theorem dX12_takeNumber_46 : decode cX12_takeNumber 46 = .ok (.lcmp, 1) := by decide +kernel
theorem dX12_takeNumber_47 : decode cX12_takeNumber 47 = .ok (.ifCond .le 8, 3) := by decide +kernel
theorem dX12_takeNumber_50 : decode cX12_takeNumber 50 = .ok (.aload_n 0, 1) := by decide +kernel
theorem dX12_takeNumber_51 : decode cX12_takeNumber 51 = .ok (.iconst 4, 1) := by decide +kernel
theorem dX12_takeNumber_52 : decode cX12_takeNumber 52 = .ok (.invokevirtual 266, 3) := by decide +kernel
theorem dX12_takeNumber_55 : decode cX12_takeNumber 55 = .ok (.aload_n 0, 1) := by decide +kernel
theorem dX12_takeNumber_56 : decode cX12_takeNumber 56 = .ok (.getfield 260, 3) := by decide +kernel
theorem dX12_takeNumber_59 : decode cX12_takeNumber 59 = .ok (.ifCond .le 5, 3) := by decide +kernel
theorem dX12_takeNumber_62 : decode cX12_takeNumber 62 = .ok (.iconst 0, 1) := by decide +kernel
theorem dX12_takeNumber_63 : decode cX12_takeNumber 63 = .ok (.ireturn, 1) := by decide +kernel
theorem dX12_takeNumber_64 : decode cX12_takeNumber 64 = .ok (.aload_n 0, 1) := by decide +kernel
theorem dX12_takeNumber_65 : decode cX12_takeNumber 65 = .ok (.dup, 1) := by decide +kernel
theorem dX12_takeNumber_66 : decode cX12_takeNumber 66 = .ok (.getfield 257, 3) := by decide +kernel
theorem dX12_takeNumber_69 : decode cX12_takeNumber 69 = .ok (.iconst 1, 1) := by decide +kernel
theorem dX12_takeNumber_70 : decode cX12_takeNumber 70 = .ok (.iadd, 1) := by decide +kernel
theorem dX12_takeNumber_71 : decode cX12_takeNumber 71 = .ok (.putfield 257, 3) := by decide +kernel
theorem dX12_takeNumber_74 : decode cX12_takeNumber 74 = .ok (.aload_n 0, 1) := by decide +kernel
theorem dX12_takeNumber_75 : decode cX12_takeNumber 75 = .ok (.getfield 30, 3) := by decide +kernel
theorem dX12_takeNumber_78 : decode cX12_takeNumber 78 = .ok (.aload_n 0, 1) := by decide +kernel
theorem dX12_takeNumber_79 : decode cX12_takeNumber 79 = .ok (.getfield 257, 3) := by decide +kernel
theorem dX12_takeNumber_82 : decode cX12_takeNumber 82 = .ok (.iconst 1, 1) := by decide +kernel
theorem dX12_takeNumber_83 : decode cX12_takeNumber 83 = .ok (.isub, 1) := by decide +kernel
theorem dX12_takeNumber_84 : decode cX12_takeNumber 84 = .ok (.laload, 1) := by decide +kernel
theorem dX12_takeNumber_85 : decode cX12_takeNumber 85 = .ok (.l2i, 1) := by decide +kernel
theorem dX12_takeNumber_86 : decode cX12_takeNumber 86 = .ok (.ireturn, 1) := by decide +kernel
theorem dX12_isName_0 : decode cX12_isName 0 = .ok (.aload_n 0, 1) := by decide +kernel
theorem dX12_isName_1 : decode cX12_isName 1 = .ok (.getfield 260, 3) := by decide +kernel
theorem dX12_isName_4 : decode cX12_isName 4 = .ok (.ifCond .ne 20, 3) := by decide +kernel
theorem dX12_isName_7 : decode cX12_isName 7 = .ok (.aload_n 0, 1) := by decide +kernel
theorem dX12_isName_8 : decode cX12_isName 8 = .ok (.getfield 24, 3) := by decide +kernel
theorem dX12_isName_11 : decode cX12_isName 11 = .ok (.aload_n 0, 1) := by decide +kernel
theorem dX12_isName_12 : decode cX12_isName 12 = .ok (.getfield 257, 3) := by decide +kernel
theorem dX12_isName_15 : decode cX12_isName 15 = .ok (.iaload, 1) := by decide +kernel
theorem dX12_isName_16 : decode cX12_isName 16 = .ok (.iconst 1, 1) := by decide +kernel
theorem dX12_isName_17 : decode cX12_isName 17 = .ok (.if_icmp .ne 7, 3) := by decide +kernel
theorem dX12_isName_20 : decode cX12_isName 20 = .ok (.iconst 1, 1) := by decide +kernel
theorem dX12_isName_21 : decode cX12_isName 21 = .ok (.goto 4, 3) := by decide +kernel
theorem dX12_isName_24 : decode cX12_isName 24 = .ok (.iconst 0, 1) := by decide +kernel
theorem dX12_isName_25 : decode cX12_isName 25 = .ok (.istore_n 1, 1) := by decide +kernel
theorem dX12_isName_26 : decode cX12_isName 26 = .ok (.iconst 0, 1) := by decide +kernel
theorem dX12_isName_27 : decode cX12_isName 27 = .ok (.istore_n 2, 1) := by decide +kernel
theorem dX12_isName_28 : decode cX12_isName 28 = .ok (.iload_n 2, 1) := by decide +kernel
theorem dX12_isName_29 : decode cX12_isName 29 = .ok (.bipush 15, 2) := by decide +kernel
theorem dX12_isName_31 : decode cX12_isName 31 = .ok (.if_icmp .ge 38, 3) := by decide +kernel
theorem dX12_isName_34 : decode cX12_isName 34 = .ok (.iload_n 1, 1) := by decide +kernel
theorem dX12_isName_35 : decode cX12_isName 35 = .ok (.ifCond .eq 26, 3) := by decide +kernel
theorem dX12_isName_38 : decode cX12_isName 38 = .ok (.aload_n 0, 1) := by decide +kernel
theorem dX12_isName_39 : decode cX12_isName 39 = .ok (.getfield 30, 3) := by decide +kernel
theorem dX12_isName_42 : decode cX12_isName 42 = .ok (.aload_n 0, 1) := by decide +kernel
theorem dX12_isName_43 : decode cX12_isName 43 = .ok (.getfield 257, 3) := by decide +kernel
theorem dX12_isName_46 : decode cX12_isName 46 = .ok (.laload, 1) := by decide +kernel
theorem dX12_isName_47 : decode cX12_isName 47 = .ok (.aload_n 0, 1) := by decide +kernel
theorem dX12_isName_48 : decode cX12_isName 48 = .ok (.getfield 64, 3) := by decide +kernel
theorem dX12_isName_51 : decode cX12_isName 51 = .ok (.iload_n 2, 1) := by decide +kernel
theorem dX12_isName_52 : decode cX12_isName 52 = .ok (.laload, 1) := by decide +kernel
theorem dX12_isName_53 : decode cX12_isName 53 = .ok (.lcmp, 1) := by decide +kernel
theorem dX12_isName_54 : decode cX12_isName 54 = .ok (.ifCond .eq 7, 3) := by decide +kernel
theorem dX12_isName_57 : decode cX12_isName 57 = .ok (.iconst 1, 1) := by decide +kernel
theorem dX12_isName_58 : decode cX12_isName 58 = .ok (.goto 4, 3) := by decide +kernel
theorem dX12_isName_61 : decode cX12_isName 61 = .ok (.iconst 0, 1) := by decide +kernel
theorem dX12_isName_62 : decode cX12_isName 62 = .ok (.istore_n 1, 1) := by decide +kernel
theorem dX12_isName_63 : decode cX12_isName 63 = .ok (.iinc 2 1, 3) := by decide +kernel
theorem dX12_isName_66 : decode cX12_isName 66 = .ok (.goto (-38), 3) := by decide +kernel
theorem dX12_isName_69 : decode cX12_isName 69 = .ok (.iload_n 1, 1) := by decide +kernel
theorem dX12_isName_70 : decode cX12_isName 70 = .ok (.ireturn, 1) := by decide +kernel
theorem dX12_findName_0 : decode cX12_findName 0 = .ok (.iconst (-1), 1) := by decide +kernel
theorem dX12_findName_1 : decode cX12_findName 1 = .ok (.istore_n 1, 1) := by decide +kernel
theorem dX12_findName_2 : decode cX12_findName 2 = .ok (.iconst 0, 1) := by decide +kernel
theorem dX12_findName_3 : decode cX12_findName 3 = .ok (.istore_n 2, 1) := by decide +kernel
theorem dX12_findName_4 : decode cX12_findName 4 = .ok (.iload_n 2, 1) := by decide +kernel
theorem dX12_findName_5 : decode cX12_findName 5 = .ok (.aload_n 0, 1) := by decide +kernel
theorem dX12_findName_6 : decode cX12_findName 6 = .ok (.getfield 285, 3) := by decide +kernel
theorem dX12_findName_9 : decode cX12_findName 9 = .ok (.if_icmp .ge 34, 3) := by decide +kernel
theorem dX12_findName_12 : decode cX12_findName 12 = .ok (.aload_n 0, 1) := by decide +kernel
theorem dX12_findName_13 : decode cX12_findName 13 = .ok (.getfield 91, 3) := by decide +kernel
theorem dX12_findName_16 : decode cX12_findName 16 = .ok (.iload_n 2, 1) := by decide +kernel
theorem dX12_findName_17 : decode cX12_findName 17 = .ok (.laload, 1) := by decide +kernel
theorem dX12_findName_18 : decode cX12_findName 18 = .ok (.aload_n 0, 1) := by decide +kernel
theorem dX12_findName_19 : decode cX12_findName 19 = .ok (.getfield 30, 3) := by decide +kernel
theorem dX12_findName_22 : decode cX12_findName 22 = .ok (.aload_n 0, 1) := by decide +kernel
theorem dX12_findName_23 : decode cX12_findName 23 = .ok (.getfield 257, 3) := by decide +kernel
theorem dX12_findName_26 : decode cX12_findName 26 = .ok (.laload, 1) := by decide +kernel
theorem dX12_findName_27 : decode cX12_findName 27 = .ok (.lcmp, 1) := by decide +kernel
theorem dX12_findName_28 : decode cX12_findName 28 = .ok (.ifCond .ne 7, 3) := by decide +kernel
theorem dX12_findName_31 : decode cX12_findName 31 = .ok (.iload_n 2, 1) := by decide +kernel
theorem dX12_findName_32 : decode cX12_findName 32 = .ok (.goto 4, 3) := by decide +kernel
theorem dX12_findName_35 : decode cX12_findName 35 = .ok (.iload_n 1, 1) := by decide +kernel
theorem dX12_findName_36 : decode cX12_findName 36 = .ok (.istore_n 1, 1) := by decide +kernel
theorem dX12_findName_37 : decode cX12_findName 37 = .ok (.iinc 2 1, 3) := by decide +kernel
theorem dX12_findName_40 : decode cX12_findName 40 = .ok (.goto (-36), 3) := by decide +kernel
theorem dX12_findName_43 : decode cX12_findName 43 = .ok (.iload_n 1, 1) := by decide +kernel
theorem dX12_findName_44 : decode cX12_findName 44 = .ok (.ireturn, 1) := by decide +kernel
theorem dX12_readLine_0 : decode cX12_readLine 0 = .ok (.aload_n 0, 1) := by decide +kernel
theorem dX12_readLine_1 : decode cX12_readLine 1 = .ok (.iconst 0, 1) := by decide +kernel
theorem dX12_readLine_2 : decode cX12_readLine 2 = .ok (.invokevirtual 270, 3) := by decide +kernel
theorem dX12_readLine_5 : decode cX12_readLine 5 = .ok (.ifCond .ne 35, 3) := by decide +kernel
theorem dX12_readLine_8 : decode cX12_readLine 8 = .ok (.aload_n 0, 1) := by decide +kernel
theorem dX12_readLine_9 : decode cX12_readLine 9 = .ok (.iconst 1, 1) := by decide +kernel
theorem dX12_readLine_10 : decode cX12_readLine 10 = .ok (.invokevirtual 270, 3) := by decide +kernel
theorem dX12_readLine_13 : decode cX12_readLine 13 = .ok (.ifCond .ne 27, 3) := by decide +kernel
theorem dX12_readLine_16 : decode cX12_readLine 16 = .ok (.aload_n 0, 1) := by decide +kernel
theorem dX12_readLine_17 : decode cX12_readLine 17 = .ok (.iconst 2, 1) := by decide +kernel
theorem dX12_readLine_18 : decode cX12_readLine 18 = .ok (.invokevirtual 270, 3) := by decide +kernel
theorem dX12_readLine_21 : decode cX12_readLine 21 = .ok (.ifCond .ne 19, 3) := by decide +kernel
theorem dX12_readLine_24 : decode cX12_readLine 24 = .ok (.aload_n 0, 1) := by decide +kernel
theorem dX12_readLine_25 : decode cX12_readLine 25 = .ok (.iconst 3, 1) := by decide +kernel
theorem dX12_readLine_26 : decode cX12_readLine 26 = .ok (.invokevirtual 270, 3) := by decide +kernel
theorem dX12_readLine_29 : decode cX12_readLine 29 = .ok (.ifCond .ne 11, 3) := by decide +kernel
theorem dX12_readLine_32 : decode cX12_readLine 32 = .ok (.aload_n 0, 1) := by decide +kernel
theorem dX12_readLine_33 : decode cX12_readLine 33 = .ok (.iconst 1, 1) := by decide +kernel
theorem dX12_readLine_34 : decode cX12_readLine 34 = .ok (.invokevirtual 266, 3) := by decide +kernel
theorem dX12_readLine_37 : decode cX12_readLine 37 = .ok (.goto 20, 3) := by decide +kernel
theorem dX12_readLine_40 : decode cX12_readLine 40 = .ok (.aload_n 0, 1) := by decide +kernel
theorem dX12_readLine_41 : decode cX12_readLine 41 = .ok (.getfield 76, 3) := by decide +kernel
theorem dX12_readLine_44 : decode cX12_readLine 44 = .ok (.bipush 16, 2) := by decide +kernel
theorem dX12_readLine_46 : decode cX12_readLine 46 = .ok (.iaload, 1) := by decide +kernel
theorem dX12_readLine_47 : decode cX12_readLine 47 = .ok (.bipush 16, 2) := by decide +kernel
theorem dX12_readLine_49 : decode cX12_readLine 49 = .ok (.if_icmp .ne 8, 3) := by decide +kernel
theorem dX12_readLine_52 : decode cX12_readLine 52 = .ok (.aload_n 0, 1) := by decide +kernel
theorem dX12_readLine_53 : decode cX12_readLine 53 = .ok (.iconst 5, 1) := by decide +kernel
theorem dX12_readLine_54 : decode cX12_readLine 54 = .ok (.invokevirtual 266, 3) := by decide +kernel
theorem dX12_readLine_57 : decode cX12_readLine 57 = .ok (.aload_n 0, 1) := by decide +kernel
theorem dX12_readLine_58 : decode cX12_readLine 58 = .ok (.getfield 260, 3) := by decide +kernel
theorem dX12_readLine_61 : decode cX12_readLine 61 = .ok (.ifCond .le 4, 3) := by decide +kernel
theorem dX12_readLine_64 : decode cX12_readLine 64 = .ok (.return_, 1) := by decide +kernel
theorem dX12_readLine_65 : decode cX12_readLine 65 = .ok (.sipush 256, 3) := by decide +kernel
theorem dX12_readLine_68 : decode cX12_readLine 68 = .ok (.aload_n 0, 1) := by decide +kernel
theorem dX12_readLine_69 : decode cX12_readLine 69 = .ok (.getfield 76, 3) := by decide +kernel
theorem dX12_readLine_72 : decode cX12_readLine 72 = .ok (.bipush 16, 2) := by decide +kernel
theorem dX12_readLine_74 : decode cX12_readLine 74 = .ok (.iaload, 1) := by decide +kernel
theorem dX12_readLine_75 : decode cX12_readLine 75 = .ok (.iadd, 1) := by decide +kernel
theorem dX12_readLine_76 : decode cX12_readLine 76 = .ok (.istore_n 1, 1) := by decide +kernel
theorem dX12_readLine_77 : decode cX12_readLine 77 = .ok (.aload_n 0, 1) := by decide +kernel
theorem dX12_readLine_78 : decode cX12_readLine 78 = .ok (.getfield 79, 3) := by decide +kernel
theorem dX12_readLine_81 : decode cX12_readLine 81 = .ok (.iload_n 1, 1) := by decide +kernel
theorem dX12_readLine_82 : decode cX12_readLine 82 = .ok (.aload_n 0, 1) := by decide +kernel
theorem dX12_readLine_83 : decode cX12_readLine 83 = .ok (.iconst 0, 1) := by decide +kernel
theorem dX12_readLine_84 : decode cX12_readLine 84 = .ok (.invokevirtual 270, 3) := by decide +kernel
theorem dX12_readLine_87 : decode cX12_readLine 87 = .ok (.ifCond .eq 7, 3) := by decide +kernel
theorem dX12_readLine_90 : decode cX12_readLine 90 = .ok (.iconst 0, 1) := by decide +kernel
theorem dX12_readLine_91 : decode cX12_readLine 91 = .ok (.goto 28, 3) := by decide +kernel
theorem dX12_readLine_94 : decode cX12_readLine 94 = .ok (.aload_n 0, 1) := by decide +kernel
theorem dX12_readLine_95 : decode cX12_readLine 95 = .ok (.iconst 1, 1) := by decide +kernel
theorem dX12_readLine_96 : decode cX12_readLine 96 = .ok (.invokevirtual 270, 3) := by decide +kernel
theorem dX12_readLine_99 : decode cX12_readLine 99 = .ok (.ifCond .eq 7, 3) := by decide +kernel
theorem dX12_readLine_102 : decode cX12_readLine 102 = .ok (.iconst 1, 1) := by decide +kernel
theorem dX12_readLine_103 : decode cX12_readLine 103 = .ok (.goto 16, 3) := by decide +kernel
theorem dX12_readLine_106 : decode cX12_readLine 106 = .ok (.aload_n 0, 1) := by decide +kernel
theorem dX12_readLine_107 : decode cX12_readLine 107 = .ok (.iconst 2, 1) := by decide +kernel
theorem dX12_readLine_108 : decode cX12_readLine 108 = .ok (.invokevirtual 270, 3) := by decide +kernel
theorem dX12_readLine_111 : decode cX12_readLine 111 = .ok (.ifCond .eq 7, 3) := by decide +kernel
theorem dX12_readLine_114 : decode cX12_readLine 114 = .ok (.iconst 2, 1) := by decide +kernel
theorem dX12_readLine_115 : decode cX12_readLine 115 = .ok (.goto 4, 3) := by decide +kernel
theorem dX12_readLine_118 : decode cX12_readLine 118 = .ok (.iconst 3, 1) := by decide +kernel
theorem dX12_readLine_119 : decode cX12_readLine 119 = .ok (.iastore, 1) := by decide +kernel
theorem dX12_readLine_120 : decode cX12_readLine 120 = .ok (.aload_n 0, 1) := by decide +kernel
theorem dX12_readLine_121 : decode cX12_readLine 121 = .ok (.getfield 82, 3) := by decide +kernel
theorem dX12_readLine_124 : decode cX12_readLine 124 = .ok (.iload_n 1, 1) := by decide +kernel
theorem dX12_readLine_125 : decode cX12_readLine 125 = .ok (.iconst 0, 1) := by decide +kernel
theorem dX12_readLine_126 : decode cX12_readLine 126 = .ok (.iastore, 1) := by decide +kernel
theorem dX12_readLine_127 : decode cX12_readLine 127 = .ok (.aload_n 0, 1) := by decide +kernel
theorem dX12_readLine_128 : decode cX12_readLine 128 = .ok (.getfield 85, 3) := by decide +kernel
theorem dX12_readLine_131 : decode cX12_readLine 131 = .ok (.iload_n 1, 1) := by decide +kernel
theorem dX12_readLine_132 : decode cX12_readLine 132 = .ok (.sipush 19200, 3) := by decide +kernel
theorem dX12_readLine_135 : decode cX12_readLine 135 = .ok (.iastore, 1) := by decide +kernel
theorem dX12_readLine_136 : decode cX12_readLine 136 = .ok (.aload_n 0, 1) := by decide +kernel
theorem dX12_readLine_137 : decode cX12_readLine 137 = .ok (.getfield 88, 3) := by decide +kernel
theorem dX12_readLine_140 : decode cX12_readLine 140 = .ok (.iload_n 1, 1) := by decide +kernel
theorem dX12_readLine_141 : decode cX12_readLine 141 = .ok (.sipush 19200, 3) := by decide +kernel
theorem dX12_readLine_144 : decode cX12_readLine 144 = .ok (.iastore, 1) := by decide +kernel
theorem dX12_readLine_145 : decode cX12_readLine 145 = .ok (.aload_n 0, 1) := by decide +kernel
theorem dX12_readLine_146 : decode cX12_readLine 146 = .ok (.dup, 1) := by decide +kernel
theorem dX12_readLine_147 : decode cX12_readLine 147 = .ok (.getfield 257, 3) := by decide +kernel
theorem dX12_readLine_150 : decode cX12_readLine 150 = .ok (.iconst 1, 1) := by decide +kernel
theorem dX12_readLine_151 : decode cX12_readLine 151 = .ok (.iadd, 1) := by decide +kernel
theorem dX12_readLine_152 : decode cX12_readLine 152 = .ok (.putfield 257, 3) := by decide +kernel
theorem dX12_readLine_155 : decode cX12_readLine 155 = .ok (.aload_n 0, 1) := by decide +kernel
theorem dX12_readLine_156 : decode cX12_readLine 156 = .ok (.getfield 79, 3) := by decide +kernel
theorem dX12_readLine_159 : decode cX12_readLine 159 = .ok (.iload_n 1, 1) := by decide +kernel
theorem dX12_readLine_160 : decode cX12_readLine 160 = .ok (.iaload, 1) := by decide +kernel
theorem dX12_readLine_161 : decode cX12_readLine 161 = .ok (.ifCond .ne 11, 3) := by decide +kernel
theorem dX12_readLine_164 : decode cX12_readLine 164 = .ok (.aload_n 0, 1) := by decide +kernel
theorem dX12_readLine_165 : decode cX12_readLine 165 = .ok (.iload_n 1, 1) := by decide +kernel
theorem dX12_readLine_166 : decode cX12_readLine 166 = .ok (.invokevirtual 298, 3) := by decide +kernel
theorem dX12_readLine_169 : decode cX12_readLine 169 = .ok (.goto 39, 3) := by decide +kernel
theorem dX12_readLine_172 : decode cX12_readLine 172 = .ok (.aload_n 0, 1) := by decide +kernel
theorem dX12_readLine_173 : decode cX12_readLine 173 = .ok (.getfield 79, 3) := by decide +kernel
theorem dX12_readLine_176 : decode cX12_readLine 176 = .ok (.iload_n 1, 1) := by decide +kernel
theorem dX12_readLine_177 : decode cX12_readLine 177 = .ok (.iaload, 1) := by decide +kernel
theorem dX12_readLine_178 : decode cX12_readLine 178 = .ok (.iconst 3, 1) := by decide +kernel
theorem dX12_readLine_179 : decode cX12_readLine 179 = .ok (.if_icmp .ne 19, 3) := by decide +kernel
theorem dX12_readLine_182 : decode cX12_readLine 182 = .ok (.aload_n 0, 1) := by decide +kernel
theorem dX12_readLine_183 : decode cX12_readLine 183 = .ok (.getfield 82, 3) := by decide +kernel
theorem dX12_readLine_186 : decode cX12_readLine 186 = .ok (.iload_n 1, 1) := by decide +kernel
theorem dX12_readLine_187 : decode cX12_readLine 187 = .ok (.aload_n 0, 1) := by decide +kernel
theorem dX12_readLine_188 : decode cX12_readLine 188 = .ok (.sipush 9999, 3) := by decide +kernel
theorem dX12_readLine_191 : decode cX12_readLine 191 = .ok (.invokevirtual 301, 3) := by decide +kernel
theorem dX12_readLine_194 : decode cX12_readLine 194 = .ok (.iastore, 1) := by decide +kernel
theorem dX12_readLine_195 : decode cX12_readLine 195 = .ok (.goto 13, 3) := by decide +kernel
theorem dX12_readLine_198 : decode cX12_readLine 198 = .ok (.aload_n 0, 1) := by decide +kernel
theorem dX12_readLine_199 : decode cX12_readLine 199 = .ok (.getfield 85, 3) := by decide +kernel
theorem dX12_readLine_202 : decode cX12_readLine 202 = .ok (.iload_n 1, 1) := by decide +kernel
theorem dX12_readLine_203 : decode cX12_readLine 203 = .ok (.aload_n 0, 1) := by decide +kernel
theorem dX12_readLine_204 : decode cX12_readLine 204 = .ok (.invokevirtual 304, 3) := by decide +kernel
theorem dX12_readLine_207 : decode cX12_readLine 207 = .ok (.iastore, 1) := by decide +kernel
theorem dX12_readLine_208 : decode cX12_readLine 208 = .ok (.aload_n 0, 1) := by decide +kernel
theorem dX12_readLine_209 : decode cX12_readLine 209 = .ok (.getfield 79, 3) := by decide +kernel
theorem dX12_readLine_212 : decode cX12_readLine 212 = .ok (.iload_n 1, 1) := by decide +kernel
theorem dX12_readLine_213 : decode cX12_readLine 213 = .ok (.iaload, 1) := by decide +kernel
theorem dX12_readLine_214 : decode cX12_readLine 214 = .ok (.iconst 1, 1) := by decide +kernel
theorem dX12_readLine_215 : decode cX12_readLine 215 = .ok (.if_icmp .eq 13, 3) := by decide +kernel
theorem dX12_readLine_218 : decode cX12_readLine 218 = .ok (.aload_n 0, 1) := by decide +kernel
theorem dX12_readLine_219 : decode cX12_readLine 219 = .ok (.getfield 79, 3) := by decide +kernel
theorem dX12_readLine_222 : decode cX12_readLine 222 = .ok (.iload_n 1, 1) := by decide +kernel
theorem dX12_readLine_223 : decode cX12_readLine 223 = .ok (.iaload, 1) := by decide +kernel
theorem dX12_readLine_224 : decode cX12_readLine 224 = .ok (.iconst 3, 1) := by decide +kernel
theorem dX12_readLine_225 : decode cX12_readLine 225 = .ok (.if_icmp .ne 18, 3) := by decide +kernel
theorem dX12_readLine_228 : decode cX12_readLine 228 = .ok (.aload_n 0, 1) := by decide +kernel
theorem dX12_readLine_229 : decode cX12_readLine 229 = .ok (.iconst 4, 1) := by decide +kernel
theorem dX12_readLine_230 : decode cX12_readLine 230 = .ok (.invokevirtual 308, 3) := by decide +kernel
theorem dX12_readLine_233 : decode cX12_readLine 233 = .ok (.aload_n 0, 1) := by decide +kernel
theorem dX12_readLine_234 : decode cX12_readLine 234 = .ok (.getfield 88, 3) := by decide +kernel
theorem dX12_readLine_237 : decode cX12_readLine 237 = .ok (.iload_n 1, 1) := by decide +kernel
theorem dX12_readLine_238 : decode cX12_readLine 238 = .ok (.aload_n 0, 1) := by decide +kernel
theorem dX12_readLine_239 : decode cX12_readLine 239 = .ok (.invokevirtual 304, 3) := by decide +kernel
theorem dX12_readLine_242 : decode cX12_readLine 242 = .ok (.iastore, 1) := by decide +kernel
theorem dX12_readLine_243 : decode cX12_readLine 243 = .ok (.aload_n 0, 1) := by decide +kernel
theorem dX12_readLine_244 : decode cX12_readLine 244 = .ok (.getfield 76, 3) := by decide +kernel
theorem dX12_readLine_247 : decode cX12_readLine 247 = .ok (.bipush 16, 2) := by decide +kernel
theorem dX12_readLine_249 : decode cX12_readLine 249 = .ok (.dup2, 1) := by decide +kernel
theorem dX12_readLine_250 : decode cX12_readLine 250 = .ok (.iaload, 1) := by decide +kernel
theorem dX12_readLine_251 : decode cX12_readLine 251 = .ok (.iconst 1, 1) := by decide +kernel
theorem dX12_readLine_252 : decode cX12_readLine 252 = .ok (.iadd, 1) := by decide +kernel
theorem dX12_readLine_253 : decode cX12_readLine 253 = .ok (.iastore, 1) := by decide +kernel
theorem dX12_readLine_254 : decode cX12_readLine 254 = .ok (.aload_n 0, 1) := by decide +kernel
theorem dX12_readLine_255 : decode cX12_readLine 255 = .ok (.bipush 59, 2) := by decide +kernel
theorem dX12_readLine_257 : decode cX12_readLine 257 = .ok (.invokevirtual 311, 3) := by decide +kernel
theorem dX12_readLine_260 : decode cX12_readLine 260 = .ok (.return_, 1) := by decide +kernel
theorem dX12_readLet_0 : decode cX12_readLet 0 = .ok (.aload_n 0, 1) := by decide +kernel
theorem dX12_readLet_1 : decode cX12_readLet 1 = .ok (.invokevirtual 314, 3) := by decide +kernel
theorem dX12_readLet_4 : decode cX12_readLet 4 = .ok (.ifCond .ne 11, 3) := by decide +kernel
theorem dX12_readLet_7 : decode cX12_readLet 7 = .ok (.aload_n 0, 1) := by decide +kernel
theorem dX12_readLet_8 : decode cX12_readLet 8 = .ok (.iconst 1, 1) := by decide +kernel
theorem dX12_readLet_9 : decode cX12_readLet 9 = .ok (.invokevirtual 266, 3) := by decide +kernel
theorem dX12_readLet_12 : decode cX12_readLet 12 = .ok (.goto 32, 3) := by decide +kernel
theorem dX12_readLet_15 : decode cX12_readLet 15 = .ok (.aload_n 0, 1) := by decide +kernel
theorem dX12_readLet_16 : decode cX12_readLet 16 = .ok (.invokevirtual 318, 3) := by decide +kernel
theorem dX12_readLet_19 : decode cX12_readLet 19 = .ok (.ifCond .lt 11, 3) := by decide +kernel
theorem dX12_readLet_22 : decode cX12_readLet 22 = .ok (.aload_n 0, 1) := by decide +kernel
theorem dX12_readLet_23 : decode cX12_readLet 23 = .ok (.iconst 3, 1) := by decide +kernel
theorem dX12_readLet_24 : decode cX12_readLet 24 = .ok (.invokevirtual 266, 3) := by decide +kernel
theorem dX12_readLet_27 : decode cX12_readLet 27 = .ok (.goto 17, 3) := by decide +kernel
theorem dX12_readLet_30 : decode cX12_readLet 30 = .ok (.aload_n 0, 1) := by decide +kernel
theorem dX12_readLet_31 : decode cX12_readLet 31 = .ok (.getfield 285, 3) := by decide +kernel
theorem dX12_readLet_34 : decode cX12_readLet 34 = .ok (.bipush 8, 2) := by decide +kernel
theorem dX12_readLet_36 : decode cX12_readLet 36 = .ok (.if_icmp .ne 8, 3) := by decide +kernel
theorem dX12_readLet_39 : decode cX12_readLet 39 = .ok (.aload_n 0, 1) := by decide +kernel
theorem dX12_readLet_40 : decode cX12_readLet 40 = .ok (.iconst 5, 1) := by decide +kernel
theorem dX12_readLet_41 : decode cX12_readLet 41 = .ok (.invokevirtual 266, 3) := by decide +kernel
theorem dX12_readLet_44 : decode cX12_readLet 44 = .ok (.aload_n 0, 1) := by decide +kernel
theorem dX12_readLet_45 : decode cX12_readLet 45 = .ok (.getfield 260, 3) := by decide +kernel
theorem dX12_readLet_48 : decode cX12_readLet 48 = .ok (.ifCond .le 4, 3) := by decide +kernel
theorem dX12_readLet_51 : decode cX12_readLet 51 = .ok (.return_, 1) := by decide +kernel
theorem dX12_readLet_52 : decode cX12_readLet 52 = .ok (.aload_n 0, 1) := by decide +kernel
theorem dX12_readLet_53 : decode cX12_readLet 53 = .ok (.getfield 30, 3) := by decide +kernel
theorem dX12_readLet_56 : decode cX12_readLet 56 = .ok (.aload_n 0, 1) := by decide +kernel
theorem dX12_readLet_57 : decode cX12_readLet 57 = .ok (.getfield 257, 3) := by decide +kernel
theorem dX12_readLet_60 : decode cX12_readLet 60 = .ok (.laload, 1) := by decide +kernel
theorem dX12_readLet_61 : decode cX12_readLet 61 = .ok (.lstore_n 2, 1) := by decide +kernel
theorem dX12_readLet_62 : decode cX12_readLet 62 = .ok (.aload_n 0, 1) := by decide +kernel
theorem dX12_readLet_63 : decode cX12_readLet 63 = .ok (.dup, 1) := by decide +kernel
theorem dX12_readLet_64 : decode cX12_readLet 64 = .ok (.getfield 257, 3) := by decide +kernel
theorem dX12_readLet_67 : decode cX12_readLet 67 = .ok (.iconst 1, 1) := by decide +kernel
theorem dX12_readLet_68 : decode cX12_readLet 68 = .ok (.iadd, 1) := by decide +kernel
theorem dX12_readLet_69 : decode cX12_readLet 69 = .ok (.putfield 257, 3) := by decide +kernel
theorem dX12_readLet_72 : decode cX12_readLet 72 = .ok (.aload_n 0, 1) := by decide +kernel
theorem dX12_readLet_73 : decode cX12_readLet 73 = .ok (.bipush 61, 2) := by decide +kernel
theorem dX12_readLet_75 : decode cX12_readLet 75 = .ok (.invokevirtual 311, 3) := by decide +kernel
theorem dX12_readLet_78 : decode cX12_readLet 78 = .ok (.aload_n 0, 1) := by decide +kernel
theorem dX12_readLet_79 : decode cX12_readLet 79 = .ok (.getfield 85, 3) := by decide +kernel
theorem dX12_readLet_82 : decode cX12_readLet 82 = .ok (.iload_n 1, 1) := by decide +kernel
theorem dX12_readLet_83 : decode cX12_readLet 83 = .ok (.aload_n 0, 1) := by decide +kernel
theorem dX12_readLet_84 : decode cX12_readLet 84 = .ok (.invokevirtual 304, 3) := by decide +kernel
theorem dX12_readLet_87 : decode cX12_readLet 87 = .ok (.iastore, 1) := by decide +kernel
theorem dX12_readLet_88 : decode cX12_readLet 88 = .ok (.aload_n 0, 1) := by decide +kernel
theorem dX12_readLet_89 : decode cX12_readLet 89 = .ok (.getfield 260, 3) := by decide +kernel
theorem dX12_readLet_92 : decode cX12_readLet 92 = .ok (.ifCond .ne 23, 3) := by decide +kernel
theorem dX12_readLet_95 : decode cX12_readLet 95 = .ok (.aload_n 0, 1) := by decide +kernel
theorem dX12_readLet_96 : decode cX12_readLet 96 = .ok (.getfield 91, 3) := by decide +kernel
theorem dX12_readLet_99 : decode cX12_readLet 99 = .ok (.aload_n 0, 1) := by decide +kernel
theorem dX12_readLet_100 : decode cX12_readLet 100 = .ok (.getfield 285, 3) := by decide +kernel
theorem dX12_readLet_103 : decode cX12_readLet 103 = .ok (.lload_n 2, 1) := by decide +kernel
theorem dX12_readLet_104 : decode cX12_readLet 104 = .ok (.lastore, 1) := by decide +kernel
theorem dX12_readLet_105 : decode cX12_readLet 105 = .ok (.aload_n 0, 1) := by decide +kernel
theorem dX12_readLet_106 : decode cX12_readLet 106 = .ok (.dup, 1) := by decide +kernel
theorem dX12_readLet_107 : decode cX12_readLet 107 = .ok (.getfield 285, 3) := by decide +kernel
theorem dX12_readLet_110 : decode cX12_readLet 110 = .ok (.iconst 1, 1) := by decide +kernel
theorem dX12_readLet_111 : decode cX12_readLet 111 = .ok (.iadd, 1) := by decide +kernel
theorem dX12_readLet_112 : decode cX12_readLet 112 = .ok (.putfield 285, 3) := by decide +kernel
theorem dX12_readLet_115 : decode cX12_readLet 115 = .ok (.return_, 1) := by decide +kernel
theorem dX12_readTests_0 : decode cX12_readTests 0 = .ok (.sipush 19200, 3) := by decide +kernel
theorem dX12_readTests_3 : decode cX12_readTests 3 = .ok (.aload_n 0, 1) := by decide +kernel
theorem dX12_readTests_4 : decode cX12_readTests 4 = .ok (.getfield 276, 3) := by decide +kernel
theorem dX12_readTests_7 : decode cX12_readTests 7 = .ok (.iadd, 1) := by decide +kernel
theorem dX12_readTests_8 : decode cX12_readTests 8 = .ok (.istore_n 1, 1) := by decide +kernel
theorem dX12_readTests_9 : decode cX12_readTests 9 = .ok (.aload_n 0, 1) := by decide +kernel
theorem dX12_readTests_10 : decode cX12_readTests 10 = .ok (.iconst 0, 1) := by decide +kernel
theorem dX12_readTests_11 : decode cX12_readTests 11 = .ok (.invokevirtual 321, 3) := by decide +kernel
theorem dX12_readTests_14 : decode cX12_readTests 14 = .ok (.aload_n 0, 1) := by decide +kernel
theorem dX12_readTests_15 : decode cX12_readTests 15 = .ok (.iconst 0, 1) := by decide +kernel
theorem dX12_readTests_16 : decode cX12_readTests 16 = .ok (.iconst 0, 1) := by decide +kernel
theorem dX12_readTests_17 : decode cX12_readTests 17 = .ok (.invokevirtual 324, 3) := by decide +kernel
theorem dX12_readTests_20 : decode cX12_readTests 20 = .ok (.iload_n 1, 1) := by decide +kernel
theorem dX12_readTests_21 : decode cX12_readTests 21 = .ok (.ireturn, 1) := by decide +kernel
theorem dX12_all_0 : decode cX12_all 0 = .ok (.aload_n 0, 1) := by decide +kernel
theorem dX12_all_1 : decode cX12_all 1 = .ok (.iload_n 1, 1) := by decide +kernel
theorem dX12_all_2 : decode cX12_all 2 = .ok (.invokevirtual 327, 3) := by decide +kernel
theorem dX12_all_5 : decode cX12_all 5 = .ok (.aload_n 0, 1) := by decide +kernel
theorem dX12_all_6 : decode cX12_all 6 = .ok (.iconst 5, 1) := by decide +kernel
theorem dX12_all_7 : decode cX12_all 7 = .ok (.invokevirtual 270, 3) := by decide +kernel
theorem dX12_all_10 : decode cX12_all 10 = .ok (.ifCond .ne 12, 3) := by decide +kernel
theorem dX12_all_13 : decode cX12_all 13 = .ok (.aload_n 0, 1) := by decide +kernel
theorem dX12_all_14 : decode cX12_all 14 = .ok (.bipush 6, 2) := by decide +kernel
theorem dX12_all_16 : decode cX12_all 16 = .ok (.invokevirtual 270, 3) := by decide +kernel
theorem dX12_all_19 : decode cX12_all 19 = .ok (.ifCond .eq 43, 3) := by decide +kernel
theorem dX12_all_22 : decode cX12_all 22 = .ok (.aload_n 0, 1) := by decide +kernel
theorem dX12_all_23 : decode cX12_all 23 = .ok (.iconst 5, 1) := by decide +kernel
theorem dX12_all_24 : decode cX12_all 24 = .ok (.invokevirtual 270, 3) := by decide +kernel
theorem dX12_all_27 : decode cX12_all 27 = .ok (.istore_n 2, 1) := by decide +kernel
theorem dX12_all_28 : decode cX12_all 28 = .ok (.aload_n 0, 1) := by decide +kernel
theorem dX12_all_29 : decode cX12_all 29 = .ok (.dup, 1) := by decide +kernel
theorem dX12_all_30 : decode cX12_all 30 = .ok (.getfield 257, 3) := by decide +kernel
theorem dX12_all_33 : decode cX12_all 33 = .ok (.iconst 1, 1) := by decide +kernel
theorem dX12_all_34 : decode cX12_all 34 = .ok (.iadd, 1) := by decide +kernel
theorem dX12_all_35 : decode cX12_all 35 = .ok (.putfield 257, 3) := by decide +kernel
theorem dX12_all_38 : decode cX12_all 38 = .ok (.aload_n 0, 1) := by decide +kernel
theorem dX12_all_39 : decode cX12_all 39 = .ok (.iload_n 1, 1) := by decide +kernel
theorem dX12_all_40 : decode cX12_all 40 = .ok (.invokevirtual 327, 3) := by decide +kernel
theorem dX12_all_43 : decode cX12_all 43 = .ok (.aload_n 0, 1) := by decide +kernel
theorem dX12_all_44 : decode cX12_all 44 = .ok (.iload_n 2, 1) := by decide +kernel
theorem dX12_all_45 : decode cX12_all 45 = .ok (.ifCond .eq 8, 3) := by decide +kernel
theorem dX12_all_48 : decode cX12_all 48 = .ok (.bipush 11, 2) := by decide +kernel
theorem dX12_all_50 : decode cX12_all 50 = .ok (.goto 5, 3) := by decide +kernel
theorem dX12_all_53 : decode cX12_all 53 = .ok (.bipush 12, 2) := by decide +kernel
theorem dX12_all_55 : decode cX12_all 55 = .ok (.iconst 0, 1) := by decide +kernel
theorem dX12_all_56 : decode cX12_all 56 = .ok (.invokevirtual 324, 3) := by decide +kernel
theorem dX12_all_59 : decode cX12_all 59 = .ok (.goto (-54), 3) := by decide +kernel
theorem dX12_all_62 : decode cX12_all 62 = .ok (.return_, 1) := by decide +kernel
theorem dX12_test_0 : decode cX12_test 0 = .ok (.aload_n 0, 1) := by decide +kernel
theorem dX12_test_1 : decode cX12_test 1 = .ok (.iload_n 1, 1) := by decide +kernel
theorem dX12_test_2 : decode cX12_test 2 = .ok (.invokevirtual 330, 3) := by decide +kernel
theorem dX12_test_5 : decode cX12_test 5 = .ok (.aload_n 0, 1) := by decide +kernel
theorem dX12_test_6 : decode cX12_test 6 = .ok (.bipush 60, 2) := by decide +kernel
theorem dX12_test_8 : decode cX12_test 8 = .ok (.invokevirtual 263, 3) := by decide +kernel
theorem dX12_test_11 : decode cX12_test 11 = .ok (.istore_n 2, 1) := by decide +kernel
theorem dX12_test_12 : decode cX12_test 12 = .ok (.aload_n 0, 1) := by decide +kernel
theorem dX12_test_13 : decode cX12_test 13 = .ok (.bipush 60, 2) := by decide +kernel
theorem dX12_test_15 : decode cX12_test 15 = .ok (.invokevirtual 333, 3) := by decide +kernel
theorem dX12_test_18 : decode cX12_test 18 = .ok (.ifCond .ne 12, 3) := by decide +kernel
theorem dX12_test_21 : decode cX12_test 21 = .ok (.aload_n 0, 1) := by decide +kernel
theorem dX12_test_22 : decode cX12_test 22 = .ok (.bipush 61, 2) := by decide +kernel
theorem dX12_test_24 : decode cX12_test 24 = .ok (.invokevirtual 333, 3) := by decide +kernel
theorem dX12_test_27 : decode cX12_test 27 = .ok (.ifCond .eq 24, 3) := by decide +kernel
theorem dX12_test_30 : decode cX12_test 30 = .ok (.aload_n 0, 1) := by decide +kernel
theorem dX12_test_31 : decode cX12_test 31 = .ok (.iload_n 1, 1) := by decide +kernel
theorem dX12_test_32 : decode cX12_test 32 = .ok (.invokevirtual 330, 3) := by decide +kernel
theorem dX12_test_35 : decode cX12_test 35 = .ok (.aload_n 0, 1) := by decide +kernel
theorem dX12_test_36 : decode cX12_test 36 = .ok (.iload_n 2, 1) := by decide +kernel
theorem dX12_test_37 : decode cX12_test 37 = .ok (.ifCond .eq 8, 3) := by decide +kernel
theorem dX12_test_40 : decode cX12_test 40 = .ok (.bipush 9, 2) := by decide +kernel
theorem dX12_test_42 : decode cX12_test 42 = .ok (.goto 5, 3) := by decide +kernel
theorem dX12_test_45 : decode cX12_test 45 = .ok (.bipush 10, 2) := by decide +kernel
theorem dX12_test_47 : decode cX12_test 47 = .ok (.iconst 0, 1) := by decide +kernel
theorem dX12_test_48 : decode cX12_test 48 = .ok (.invokevirtual 324, 3) := by decide +kernel
theorem dX12_test_51 : decode cX12_test 51 = .ok (.return_, 1) := by decide +kernel
theorem dX12_sums_0 : decode cX12_sums 0 = .ok (.aload_n 0, 1) := by decide +kernel
theorem dX12_sums_1 : decode cX12_sums 1 = .ok (.iload_n 1, 1) := by decide +kernel
theorem dX12_sums_2 : decode cX12_sums 2 = .ok (.invokevirtual 336, 3) := by decide +kernel
theorem dX12_sums_5 : decode cX12_sums 5 = .ok (.aload_n 0, 1) := by decide +kernel
theorem dX12_sums_6 : decode cX12_sums 6 = .ok (.bipush 43, 2) := by decide +kernel
theorem dX12_sums_8 : decode cX12_sums 8 = .ok (.invokevirtual 263, 3) := by decide +kernel
theorem dX12_sums_11 : decode cX12_sums 11 = .ok (.ifCond .ne 12, 3) := by decide +kernel
theorem dX12_sums_14 : decode cX12_sums 14 = .ok (.aload_n 0, 1) := by decide +kernel
theorem dX12_sums_15 : decode cX12_sums 15 = .ok (.bipush 45, 2) := by decide +kernel
theorem dX12_sums_17 : decode cX12_sums 17 = .ok (.invokevirtual 263, 3) := by decide +kernel
theorem dX12_sums_20 : decode cX12_sums 20 = .ok (.ifCond .eq 44, 3) := by decide +kernel
theorem dX12_sums_23 : decode cX12_sums 23 = .ok (.aload_n 0, 1) := by decide +kernel
theorem dX12_sums_24 : decode cX12_sums 24 = .ok (.bipush 43, 2) := by decide +kernel
theorem dX12_sums_26 : decode cX12_sums 26 = .ok (.invokevirtual 263, 3) := by decide +kernel
theorem dX12_sums_29 : decode cX12_sums 29 = .ok (.istore_n 2, 1) := by decide +kernel
theorem dX12_sums_30 : decode cX12_sums 30 = .ok (.aload_n 0, 1) := by decide +kernel
theorem dX12_sums_31 : decode cX12_sums 31 = .ok (.dup, 1) := by decide +kernel
theorem dX12_sums_32 : decode cX12_sums 32 = .ok (.getfield 257, 3) := by decide +kernel
theorem dX12_sums_35 : decode cX12_sums 35 = .ok (.iconst 1, 1) := by decide +kernel
theorem dX12_sums_36 : decode cX12_sums 36 = .ok (.iadd, 1) := by decide +kernel
theorem dX12_sums_37 : decode cX12_sums 37 = .ok (.putfield 257, 3) := by decide +kernel
theorem dX12_sums_40 : decode cX12_sums 40 = .ok (.aload_n 0, 1) := by decide +kernel
theorem dX12_sums_41 : decode cX12_sums 41 = .ok (.iload_n 1, 1) := by decide +kernel
theorem dX12_sums_42 : decode cX12_sums 42 = .ok (.invokevirtual 336, 3) := by decide +kernel
theorem dX12_sums_45 : decode cX12_sums 45 = .ok (.aload_n 0, 1) := by decide +kernel
theorem dX12_sums_46 : decode cX12_sums 46 = .ok (.iload_n 2, 1) := by decide +kernel
theorem dX12_sums_47 : decode cX12_sums 47 = .ok (.ifCond .eq 8, 3) := by decide +kernel
theorem dX12_sums_50 : decode cX12_sums 50 = .ok (.bipush 6, 2) := by decide +kernel
theorem dX12_sums_52 : decode cX12_sums 52 = .ok (.goto 5, 3) := by decide +kernel
theorem dX12_sums_55 : decode cX12_sums 55 = .ok (.bipush 7, 2) := by decide +kernel
theorem dX12_sums_57 : decode cX12_sums 57 = .ok (.iconst 0, 1) := by decide +kernel
theorem dX12_sums_58 : decode cX12_sums 58 = .ok (.invokevirtual 324, 3) := by decide +kernel
theorem dX12_sums_61 : decode cX12_sums 61 = .ok (.goto (-56), 3) := by decide +kernel
theorem dX12_sums_64 : decode cX12_sums 64 = .ok (.return_, 1) := by decide +kernel
theorem dX12_products_0 : decode cX12_products 0 = .ok (.aload_n 0, 1) := by decide +kernel
theorem dX12_products_1 : decode cX12_products 1 = .ok (.iload_n 1, 1) := by decide +kernel
theorem dX12_products_2 : decode cX12_products 2 = .ok (.invokevirtual 339, 3) := by decide +kernel
theorem dX12_products_5 : decode cX12_products 5 = .ok (.aload_n 0, 1) := by decide +kernel
theorem dX12_products_6 : decode cX12_products 6 = .ok (.bipush 42, 2) := by decide +kernel
theorem dX12_products_8 : decode cX12_products 8 = .ok (.invokevirtual 333, 3) := by decide +kernel
theorem dX12_products_11 : decode cX12_products 11 = .ok (.ifCond .eq 18, 3) := by decide +kernel
theorem dX12_products_14 : decode cX12_products 14 = .ok (.aload_n 0, 1) := by decide +kernel
theorem dX12_products_15 : decode cX12_products 15 = .ok (.iload_n 1, 1) := by decide +kernel
theorem dX12_products_16 : decode cX12_products 16 = .ok (.invokevirtual 339, 3) := by decide +kernel
theorem dX12_products_19 : decode cX12_products 19 = .ok (.aload_n 0, 1) := by decide +kernel
theorem dX12_products_20 : decode cX12_products 20 = .ok (.bipush 8, 2) := by decide +kernel
theorem dX12_products_22 : decode cX12_products 22 = .ok (.iconst 0, 1) := by decide +kernel
theorem dX12_products_23 : decode cX12_products 23 = .ok (.invokevirtual 324, 3) := by decide +kernel
theorem dX12_products_26 : decode cX12_products 26 = .ok (.goto (-21), 3) := by decide +kernel
theorem dX12_products_29 : decode cX12_products 29 = .ok (.return_, 1) := by decide +kernel
theorem dX12_takePart_0 : decode cX12_takePart 0 = .ok (.aload_n 0, 1) := by decide +kernel
theorem dX12_takePart_1 : decode cX12_takePart 1 = .ok (.getfield 260, 3) := by decide +kernel
theorem dX12_takePart_4 : decode cX12_takePart 4 = .ok (.ifCond .le 4, 3) := by decide +kernel
theorem dX12_takePart_7 : decode cX12_takePart 7 = .ok (.return_, 1) := by decide +kernel
theorem dX12_takePart_8 : decode cX12_takePart 8 = .ok (.iconst (-1), 1) := by decide +kernel
theorem dX12_takePart_9 : decode cX12_takePart 9 = .ok (.istore_n 2, 1) := by decide +kernel
theorem dX12_takePart_10 : decode cX12_takePart 10 = .ok (.bipush 9, 2) := by decide +kernel
theorem dX12_takePart_12 : decode cX12_takePart 12 = .ok (.istore_n 3, 1) := by decide +kernel
theorem dX12_takePart_13 : decode cX12_takePart 13 = .ok (.iload_n 3, 1) := by decide +kernel
theorem dX12_takePart_14 : decode cX12_takePart 14 = .ok (.bipush 15, 2) := by decide +kernel
theorem dX12_takePart_16 : decode cX12_takePart 16 = .ok (.if_icmp .ge 26, 3) := by decide +kernel
theorem dX12_takePart_19 : decode cX12_takePart 19 = .ok (.aload_n 0, 1) := by decide +kernel
theorem dX12_takePart_20 : decode cX12_takePart 20 = .ok (.iload_n 3, 1) := by decide +kernel
theorem dX12_takePart_21 : decode cX12_takePart 21 = .ok (.invokevirtual 270, 3) := by decide +kernel
theorem dX12_takePart_24 : decode cX12_takePart 24 = .ok (.ifCond .eq 10, 3) := by decide +kernel
theorem dX12_takePart_27 : decode cX12_takePart 27 = .ok (.iload_n 3, 1) := by decide +kernel
theorem dX12_takePart_28 : decode cX12_takePart 28 = .ok (.bipush 9, 2) := by decide +kernel
theorem dX12_takePart_30 : decode cX12_takePart 30 = .ok (.isub, 1) := by decide +kernel
theorem dX12_takePart_31 : decode cX12_takePart 31 = .ok (.goto 4, 3) := by decide +kernel
theorem dX12_takePart_34 : decode cX12_takePart 34 = .ok (.iload_n 2, 1) := by decide +kernel
theorem dX12_takePart_35 : decode cX12_takePart 35 = .ok (.istore_n 2, 1) := by decide +kernel
theorem dX12_takePart_36 : decode cX12_takePart 36 = .ok (.iinc 3 1, 3) := by decide +kernel
theorem dX12_takePart_39 : decode cX12_takePart 39 = .ok (.goto (-26), 3) := by decide +kernel
theorem dX12_takePart_42 : decode cX12_takePart 42 = .ok (.aload_n 0, 1) := by decide +kernel
theorem dX12_takePart_43 : decode cX12_takePart 43 = .ok (.getfield 24, 3) := by decide +kernel
theorem dX12_takePart_46 : decode cX12_takePart 46 = .ok (.aload_n 0, 1) := by decide +kernel
theorem dX12_takePart_47 : decode cX12_takePart 47 = .ok (.getfield 257, 3) := by decide +kernel
theorem dX12_takePart_50 : decode cX12_takePart 50 = .ok (.iaload, 1) := by decide +kernel
theorem dX12_takePart_51 : decode cX12_takePart 51 = .ok (.iconst 2, 1) := by decide +kernel
theorem dX12_takePart_52 : decode cX12_takePart 52 = .ok (.if_icmp .ne 7, 3) := by decide +kernel
theorem dX12_takePart_55 : decode cX12_takePart 55 = .ok (.iconst 1, 1) := by decide +kernel
theorem dX12_takePart_56 : decode cX12_takePart 56 = .ok (.goto 4, 3) := by decide +kernel
theorem dX12_takePart_59 : decode cX12_takePart 59 = .ok (.iconst 0, 1) := by decide +kernel
theorem dX12_takePart_60 : decode cX12_takePart 60 = .ok (.istore_n 3, 1) := by decide +kernel
theorem dX12_takePart_61 : decode cX12_takePart 61 = .ok (.aload_n 0, 1) := by decide +kernel
theorem dX12_takePart_62 : decode cX12_takePart 62 = .ok (.invokevirtual 314, 3) := by decide +kernel
theorem dX12_takePart_65 : decode cX12_takePart 65 = .ok (.ifCond .eq 10, 3) := by decide +kernel
theorem dX12_takePart_68 : decode cX12_takePart 68 = .ok (.aload_n 0, 1) := by decide +kernel
theorem dX12_takePart_69 : decode cX12_takePart 69 = .ok (.invokevirtual 318, 3) := by decide +kernel
theorem dX12_takePart_72 : decode cX12_takePart 72 = .ok (.goto 4, 3) := by decide +kernel
theorem dX12_takePart_75 : decode cX12_takePart 75 = .ok (.iconst (-1), 1) := by decide +kernel
theorem dX12_takePart_76 : decode cX12_takePart 76 = .ok (.istore 4, 2) := by decide +kernel
theorem dX12_takePart_78 : decode cX12_takePart 78 = .ok (.iload_n 2, 1) := by decide +kernel
theorem dX12_takePart_79 : decode cX12_takePart 79 = .ok (.ifCond .ge 49, 3) := by decide +kernel
theorem dX12_takePart_82 : decode cX12_takePart 82 = .ok (.iload_n 3, 1) := by decide +kernel
theorem dX12_takePart_83 : decode cX12_takePart 83 = .ok (.ifCond .ne 45, 3) := by decide +kernel
theorem dX12_takePart_86 : decode cX12_takePart 86 = .ok (.aload_n 0, 1) := by decide +kernel
theorem dX12_takePart_87 : decode cX12_takePart 87 = .ok (.invokevirtual 314, 3) := by decide +kernel
theorem dX12_takePart_90 : decode cX12_takePart 90 = .ok (.ifCond .ne 38, 3) := by decide +kernel
theorem dX12_takePart_93 : decode cX12_takePart 93 = .ok (.aload_n 0, 1) := by decide +kernel
theorem dX12_takePart_94 : decode cX12_takePart 94 = .ok (.bipush 40, 2) := by decide +kernel
theorem dX12_takePart_96 : decode cX12_takePart 96 = .ok (.invokevirtual 263, 3) := by decide +kernel
theorem dX12_takePart_99 : decode cX12_takePart 99 = .ok (.ifCond .ne 29, 3) := by decide +kernel
theorem dX12_takePart_102 : decode cX12_takePart 102 = .ok (.aload_n 0, 1) := by decide +kernel
theorem dX12_takePart_103 : decode cX12_takePart 103 = .ok (.bipush 7, 2) := by decide +kernel
theorem dX12_takePart_105 : decode cX12_takePart 105 = .ok (.invokevirtual 270, 3) := by decide +kernel
theorem dX12_takePart_108 : decode cX12_takePart 108 = .ok (.ifCond .ne 20, 3) := by decide +kernel
theorem dX12_takePart_111 : decode cX12_takePart 111 = .ok (.aload_n 0, 1) := by decide +kernel
theorem dX12_takePart_112 : decode cX12_takePart 112 = .ok (.bipush 8, 2) := by decide +kernel
theorem dX12_takePart_114 : decode cX12_takePart 114 = .ok (.invokevirtual 270, 3) := by decide +kernel
theorem dX12_takePart_117 : decode cX12_takePart 117 = .ok (.ifCond .ne 11, 3) := by decide +kernel
theorem dX12_takePart_120 : decode cX12_takePart 120 = .ok (.aload_n 0, 1) := by decide +kernel
theorem dX12_takePart_121 : decode cX12_takePart 121 = .ok (.iconst 1, 1) := by decide +kernel
theorem dX12_takePart_122 : decode cX12_takePart 122 = .ok (.invokevirtual 266, 3) := by decide +kernel
theorem dX12_takePart_125 : decode cX12_takePart 125 = .ok (.goto 33, 3) := by decide +kernel
theorem dX12_takePart_128 : decode cX12_takePart 128 = .ok (.aload_n 0, 1) := by decide +kernel
theorem dX12_takePart_129 : decode cX12_takePart 129 = .ok (.invokevirtual 314, 3) := by decide +kernel
theorem dX12_takePart_132 : decode cX12_takePart 132 = .ok (.ifCond .eq 16, 3) := by decide +kernel
theorem dX12_takePart_135 : decode cX12_takePart 135 = .ok (.iload 4, 2) := by decide +kernel
theorem dX12_takePart_137 : decode cX12_takePart 137 = .ok (.ifCond .ge 11, 3) := by decide +kernel
theorem dX12_takePart_140 : decode cX12_takePart 140 = .ok (.aload_n 0, 1) := by decide +kernel
theorem dX12_takePart_141 : decode cX12_takePart 141 = .ok (.iconst 2, 1) := by decide +kernel
theorem dX12_takePart_142 : decode cX12_takePart 142 = .ok (.invokevirtual 266, 3) := by decide +kernel
theorem dX12_takePart_145 : decode cX12_takePart 145 = .ok (.goto 13, 3) := by decide +kernel
theorem dX12_takePart_148 : decode cX12_takePart 148 = .ok (.iload_n 1, 1) := by decide +kernel
theorem dX12_takePart_149 : decode cX12_takePart 149 = .ok (.iconst 4, 1) := by decide +kernel
theorem dX12_takePart_150 : decode cX12_takePart 150 = .ok (.if_icmp .ne 8, 3) := by decide +kernel
theorem dX12_takePart_153 : decode cX12_takePart 153 = .ok (.aload_n 0, 1) := by decide +kernel
theorem dX12_takePart_154 : decode cX12_takePart 154 = .ok (.iconst 5, 1) := by decide +kernel
theorem dX12_takePart_155 : decode cX12_takePart 155 = .ok (.invokevirtual 266, 3) := by decide +kernel
theorem dX12_takePart_158 : decode cX12_takePart 158 = .ok (.aload_n 0, 1) := by decide +kernel
theorem dX12_takePart_159 : decode cX12_takePart 159 = .ok (.getfield 260, 3) := by decide +kernel
theorem dX12_takePart_162 : decode cX12_takePart 162 = .ok (.ifCond .le 4, 3) := by decide +kernel
theorem dX12_takePart_165 : decode cX12_takePart 165 = .ok (.return_, 1) := by decide +kernel
theorem dX12_takePart_166 : decode cX12_takePart 166 = .ok (.aload_n 0, 1) := by decide +kernel
theorem dX12_takePart_167 : decode cX12_takePart 167 = .ok (.bipush 7, 2) := by decide +kernel
theorem dX12_takePart_169 : decode cX12_takePart 169 = .ok (.invokevirtual 273, 3) := by decide +kernel
theorem dX12_takePart_172 : decode cX12_takePart 172 = .ok (.ifCond .eq 19, 3) := by decide +kernel
theorem dX12_takePart_175 : decode cX12_takePart 175 = .ok (.aload_n 0, 1) := by decide +kernel
theorem dX12_takePart_176 : decode cX12_takePart 176 = .ok (.iload_n 1, 1) := by decide +kernel
theorem dX12_takePart_177 : decode cX12_takePart 177 = .ok (.iconst 1, 1) := by decide +kernel
theorem dX12_takePart_178 : decode cX12_takePart 178 = .ok (.iadd, 1) := by decide +kernel
theorem dX12_takePart_179 : decode cX12_takePart 179 = .ok (.invokevirtual 339, 3) := by decide +kernel
theorem dX12_takePart_182 : decode cX12_takePart 182 = .ok (.aload_n 0, 1) := by decide +kernel
theorem dX12_takePart_183 : decode cX12_takePart 183 = .ok (.iconst 5, 1) := by decide +kernel
theorem dX12_takePart_184 : decode cX12_takePart 184 = .ok (.iconst 0, 1) := by decide +kernel
theorem dX12_takePart_185 : decode cX12_takePart 185 = .ok (.invokevirtual 324, 3) := by decide +kernel
theorem dX12_takePart_188 : decode cX12_takePart 188 = .ok (.goto 115, 3) := by decide +kernel
theorem dX12_takePart_191 : decode cX12_takePart 191 = .ok (.aload_n 0, 1) := by decide +kernel
theorem dX12_takePart_192 : decode cX12_takePart 192 = .ok (.bipush 8, 2) := by decide +kernel
theorem dX12_takePart_194 : decode cX12_takePart 194 = .ok (.invokevirtual 273, 3) := by decide +kernel
theorem dX12_takePart_197 : decode cX12_takePart 197 = .ok (.ifCond .eq 21, 3) := by decide +kernel
theorem dX12_takePart_200 : decode cX12_takePart 200 = .ok (.aload_n 0, 1) := by decide +kernel
theorem dX12_takePart_201 : decode cX12_takePart 201 = .ok (.bipush 11, 2) := by decide +kernel
theorem dX12_takePart_203 : decode cX12_takePart 203 = .ok (.invokevirtual 301, 3) := by decide +kernel
theorem dX12_takePart_206 : decode cX12_takePart 206 = .ok (.istore 5, 2) := by decide +kernel
theorem dX12_takePart_208 : decode cX12_takePart 208 = .ok (.aload_n 0, 1) := by decide +kernel
theorem dX12_takePart_209 : decode cX12_takePart 209 = .ok (.iconst 4, 1) := by decide +kernel
theorem dX12_takePart_210 : decode cX12_takePart 210 = .ok (.iload 5, 2) := by decide +kernel
theorem dX12_takePart_212 : decode cX12_takePart 212 = .ok (.invokevirtual 324, 3) := by decide +kernel
theorem dX12_takePart_215 : decode cX12_takePart 215 = .ok (.goto 88, 3) := by decide +kernel
theorem dX12_takePart_218 : decode cX12_takePart 218 = .ok (.aload_n 0, 1) := by decide +kernel
theorem dX12_takePart_219 : decode cX12_takePart 219 = .ok (.bipush 40, 2) := by decide +kernel
theorem dX12_takePart_221 : decode cX12_takePart 221 = .ok (.invokevirtual 333, 3) := by decide +kernel
theorem dX12_takePart_224 : decode cX12_takePart 224 = .ok (.ifCond .eq 19, 3) := by decide +kernel
theorem dX12_takePart_227 : decode cX12_takePart 227 = .ok (.aload_n 0, 1) := by decide +kernel
theorem dX12_takePart_228 : decode cX12_takePart 228 = .ok (.iload_n 1, 1) := by decide +kernel
theorem dX12_takePart_229 : decode cX12_takePart 229 = .ok (.iconst 1, 1) := by decide +kernel
theorem dX12_takePart_230 : decode cX12_takePart 230 = .ok (.iadd, 1) := by decide +kernel
theorem dX12_takePart_231 : decode cX12_takePart 231 = .ok (.invokevirtual 321, 3) := by decide +kernel
theorem dX12_takePart_234 : decode cX12_takePart 234 = .ok (.aload_n 0, 1) := by decide +kernel
theorem dX12_takePart_235 : decode cX12_takePart 235 = .ok (.bipush 41, 2) := by decide +kernel
theorem dX12_takePart_237 : decode cX12_takePart 237 = .ok (.invokevirtual 311, 3) := by decide +kernel
theorem dX12_takePart_240 : decode cX12_takePart 240 = .ok (.goto 63, 3) := by decide +kernel
theorem dX12_takePart_243 : decode cX12_takePart 243 = .ok (.aload_n 0, 1) := by decide +kernel
theorem dX12_takePart_244 : decode cX12_takePart 244 = .ok (.iload_n 3, 1) := by decide +kernel
theorem dX12_takePart_245 : decode cX12_takePart 245 = .ok (.ifCond .eq 7, 3) := by decide +kernel
theorem dX12_takePart_248 : decode cX12_takePart 248 = .ok (.iconst 1, 1) := by decide +kernel
theorem dX12_takePart_249 : decode cX12_takePart 249 = .ok (.goto 13, 3) := by decide +kernel
theorem dX12_takePart_252 : decode cX12_takePart 252 = .ok (.iload 4, 2) := by decide +kernel
theorem dX12_takePart_254 : decode cX12_takePart 254 = .ok (.ifCond .lt 7, 3) := by decide +kernel
theorem dX12_takePart_257 : decode cX12_takePart 257 = .ok (.iconst 3, 1) := by decide +kernel
theorem dX12_takePart_258 : decode cX12_takePart 258 = .ok (.goto 4, 3) := by decide +kernel
theorem dX12_takePart_261 : decode cX12_takePart 261 = .ok (.iconst 2, 1) := by decide +kernel
theorem dX12_takePart_262 : decode cX12_takePart 262 = .ok (.iload_n 3, 1) := by decide +kernel
theorem dX12_takePart_263 : decode cX12_takePart 263 = .ok (.ifCond .eq 16, 3) := by decide +kernel
theorem dX12_takePart_266 : decode cX12_takePart 266 = .ok (.aload_n 0, 1) := by decide +kernel
theorem dX12_takePart_267 : decode cX12_takePart 267 = .ok (.getfield 30, 3) := by decide +kernel
theorem dX12_takePart_270 : decode cX12_takePart 270 = .ok (.aload_n 0, 1) := by decide +kernel
theorem dX12_takePart_271 : decode cX12_takePart 271 = .ok (.getfield 257, 3) := by decide +kernel
theorem dX12_takePart_274 : decode cX12_takePart 274 = .ok (.laload, 1) := by decide +kernel
theorem dX12_takePart_275 : decode cX12_takePart 275 = .ok (.l2i, 1) := by decide +kernel
theorem dX12_takePart_276 : decode cX12_takePart 276 = .ok (.goto 14, 3) := by decide +kernel
theorem dX12_takePart_279 : decode cX12_takePart 279 = .ok (.iload 4, 2) := by decide +kernel
theorem dX12_takePart_281 : decode cX12_takePart 281 = .ok (.ifCond .lt 8, 3) := by decide +kernel
theorem dX12_takePart_284 : decode cX12_takePart 284 = .ok (.iload 4, 2) := by decide +kernel
theorem dX12_takePart_286 : decode cX12_takePart 286 = .ok (.goto 4, 3) := by decide +kernel
theorem dX12_takePart_289 : decode cX12_takePart 289 = .ok (.iload_n 2, 1) := by decide +kernel
theorem dX12_takePart_290 : decode cX12_takePart 290 = .ok (.invokevirtual 324, 3) := by decide +kernel
theorem dX12_takePart_293 : decode cX12_takePart 293 = .ok (.aload_n 0, 1) := by decide +kernel
theorem dX12_takePart_294 : decode cX12_takePart 294 = .ok (.dup, 1) := by decide +kernel
theorem dX12_takePart_295 : decode cX12_takePart 295 = .ok (.getfield 257, 3) := by decide +kernel
theorem dX12_takePart_298 : decode cX12_takePart 298 = .ok (.iconst 1, 1) := by decide +kernel
theorem dX12_takePart_299 : decode cX12_takePart 299 = .ok (.iadd, 1) := by decide +kernel
theorem dX12_takePart_300 : decode cX12_takePart 300 = .ok (.putfield 257, 3) := by decide +kernel
theorem dX12_takePart_303 : decode cX12_takePart 303 = .ok (.return_, 1) := by decide +kernel
theorem dX12_worth_0 : decode cX12_worth 0 = .ok (.iconst 0, 1) := by decide +kernel
theorem dX12_worth_1 : decode cX12_worth 1 = .ok (.istore_n 2, 1) := by decide +kernel
theorem dX12_worth_2 : decode cX12_worth 2 = .ok (.iload_n 1, 1) := by decide +kernel
theorem dX12_worth_3 : decode cX12_worth 3 = .ok (.istore_n 3, 1) := by decide +kernel
theorem dX12_worth_4 : decode cX12_worth 4 = .ok (.aload_n 0, 1) := by decide +kernel
theorem dX12_worth_5 : decode cX12_worth 5 = .ok (.getfield 94, 3) := by decide +kernel
theorem dX12_worth_8 : decode cX12_worth 8 = .ok (.iload_n 3, 1) := by decide +kernel
theorem dX12_worth_9 : decode cX12_worth 9 = .ok (.iaload, 1) := by decide +kernel
theorem dX12_worth_10 : decode cX12_worth 10 = .ok (.ifCond .eq 166, 3) := by decide +kernel
theorem dX12_worth_13 : decode cX12_worth 13 = .ok (.aload_n 0, 1) := by decide +kernel
theorem dX12_worth_14 : decode cX12_worth 14 = .ok (.getfield 94, 3) := by decide +kernel
theorem dX12_worth_17 : decode cX12_worth 17 = .ok (.iload_n 3, 1) := by decide +kernel
theorem dX12_worth_18 : decode cX12_worth 18 = .ok (.iaload, 1) := by decide +kernel
theorem dX12_worth_19 : decode cX12_worth 19 = .ok (.istore 4, 2) := by decide +kernel
theorem dX12_worth_21 : decode cX12_worth 21 = .ok (.iload 4, 2) := by decide +kernel
theorem dX12_worth_23 : decode cX12_worth 23 = .ok (.iconst 4, 1) := by decide +kernel
theorem dX12_worth_24 : decode cX12_worth 24 = .ok (.if_icmp .gt 83, 3) := by decide +kernel
theorem dX12_worth_27 : decode cX12_worth 27 = .ok (.aload_n 0, 1) := by decide +kernel
theorem dX12_worth_28 : decode cX12_worth 28 = .ok (.getfield 106, 3) := by decide +kernel
theorem dX12_worth_31 : decode cX12_worth 31 = .ok (.iload_n 2, 1) := by decide +kernel
theorem dX12_worth_32 : decode cX12_worth 32 = .ok (.iload 4, 2) := by decide +kernel
theorem dX12_worth_34 : decode cX12_worth 34 = .ok (.iconst 1, 1) := by decide +kernel
theorem dX12_worth_35 : decode cX12_worth 35 = .ok (.if_icmp .ne 12, 3) := by decide +kernel
theorem dX12_worth_38 : decode cX12_worth 38 = .ok (.aload_n 0, 1) := by decide +kernel
theorem dX12_worth_39 : decode cX12_worth 39 = .ok (.getfield 97, 3) := by decide +kernel
theorem dX12_worth_42 : decode cX12_worth 42 = .ok (.iload_n 3, 1) := by decide +kernel
theorem dX12_worth_43 : decode cX12_worth 43 = .ok (.iaload, 1) := by decide +kernel
theorem dX12_worth_44 : decode cX12_worth 44 = .ok (.goto 56, 3) := by decide +kernel
theorem dX12_worth_47 : decode cX12_worth 47 = .ok (.iload 4, 2) := by decide +kernel
theorem dX12_worth_49 : decode cX12_worth 49 = .ok (.iconst 2, 1) := by decide +kernel
theorem dX12_worth_50 : decode cX12_worth 50 = .ok (.if_icmp .ne 17, 3) := by decide +kernel
theorem dX12_worth_53 : decode cX12_worth 53 = .ok (.aload_n 0, 1) := by decide +kernel
theorem dX12_worth_54 : decode cX12_worth 54 = .ok (.getfield 100, 3) := by decide +kernel
theorem dX12_worth_57 : decode cX12_worth 57 = .ok (.aload_n 0, 1) := by decide +kernel
theorem dX12_worth_58 : decode cX12_worth 58 = .ok (.getfield 97, 3) := by decide +kernel
theorem dX12_worth_61 : decode cX12_worth 61 = .ok (.iload_n 3, 1) := by decide +kernel
theorem dX12_worth_62 : decode cX12_worth 62 = .ok (.iaload, 1) := by decide +kernel
theorem dX12_worth_63 : decode cX12_worth 63 = .ok (.iaload, 1) := by decide +kernel
theorem dX12_worth_64 : decode cX12_worth 64 = .ok (.goto 36, 3) := by decide +kernel
theorem dX12_worth_67 : decode cX12_worth 67 = .ok (.iload 4, 2) := by decide +kernel
theorem dX12_worth_69 : decode cX12_worth 69 = .ok (.iconst 3, 1) := by decide +kernel
theorem dX12_worth_70 : decode cX12_worth 70 = .ok (.if_icmp .ne 17, 3) := by decide +kernel
theorem dX12_worth_73 : decode cX12_worth 73 = .ok (.aload_n 0, 1) := by decide +kernel
theorem dX12_worth_74 : decode cX12_worth 74 = .ok (.getfield 103, 3) := by decide +kernel
theorem dX12_worth_77 : decode cX12_worth 77 = .ok (.aload_n 0, 1) := by decide +kernel
theorem dX12_worth_78 : decode cX12_worth 78 = .ok (.getfield 97, 3) := by decide +kernel
theorem dX12_worth_81 : decode cX12_worth 81 = .ok (.iload_n 3, 1) := by decide +kernel
theorem dX12_worth_82 : decode cX12_worth 82 = .ok (.iaload, 1) := by decide +kernel
theorem dX12_worth_83 : decode cX12_worth 83 = .ok (.iaload, 1) := by decide +kernel
theorem dX12_worth_84 : decode cX12_worth 84 = .ok (.goto 16, 3) := by decide +kernel
theorem dX12_worth_87 : decode cX12_worth 87 = .ok (.aload_n 0, 1) := by decide +kernel
theorem dX12_worth_88 : decode cX12_worth 88 = .ok (.getfield 342, 3) := by decide +kernel
theorem dX12_worth_91 : decode cX12_worth 91 = .ok (.aload_n 0, 1) := by decide +kernel
theorem dX12_worth_92 : decode cX12_worth 92 = .ok (.getfield 97, 3) := by decide +kernel
theorem dX12_worth_95 : decode cX12_worth 95 = .ok (.iload_n 3, 1) := by decide +kernel
theorem dX12_worth_96 : decode cX12_worth 96 = .ok (.iaload, 1) := by decide +kernel
theorem dX12_worth_97 : decode cX12_worth 97 = .ok (.ishr, 1) := by decide +kernel
theorem dX12_worth_98 : decode cX12_worth 98 = .ok (.iconst 1, 1) := by decide +kernel
theorem dX12_worth_99 : decode cX12_worth 99 = .ok (.iand, 1) := by decide +kernel
theorem dX12_worth_100 : decode cX12_worth 100 = .ok (.iastore, 1) := by decide +kernel
theorem dX12_worth_101 : decode cX12_worth 101 = .ok (.iinc 2 1, 3) := by decide +kernel
theorem dX12_worth_104 : decode cX12_worth 104 = .ok (.goto 66, 3) := by decide +kernel
theorem dX12_worth_107 : decode cX12_worth 107 = .ok (.iload 4, 2) := by decide +kernel
theorem dX12_worth_109 : decode cX12_worth 109 = .ok (.iconst 5, 1) := by decide +kernel
theorem dX12_worth_110 : decode cX12_worth 110 = .ok (.if_icmp .ne 30, 3) := by decide +kernel
theorem dX12_worth_113 : decode cX12_worth 113 = .ok (.aload_n 0, 1) := by decide +kernel
theorem dX12_worth_114 : decode cX12_worth 114 = .ok (.getfield 106, 3) := by decide +kernel
theorem dX12_worth_117 : decode cX12_worth 117 = .ok (.iload_n 2, 1) := by decide +kernel
theorem dX12_worth_118 : decode cX12_worth 118 = .ok (.iconst 1, 1) := by decide +kernel
theorem dX12_worth_119 : decode cX12_worth 119 = .ok (.isub, 1) := by decide +kernel
theorem dX12_worth_120 : decode cX12_worth 120 = .ok (.aload_n 0, 1) := by decide +kernel
theorem dX12_worth_121 : decode cX12_worth 121 = .ok (.getfield 106, 3) := by decide +kernel
theorem dX12_worth_124 : decode cX12_worth 124 = .ok (.iload_n 2, 1) := by decide +kernel
theorem dX12_worth_125 : decode cX12_worth 125 = .ok (.iconst 1, 1) := by decide +kernel
theorem dX12_worth_126 : decode cX12_worth 126 = .ok (.isub, 1) := by decide +kernel
theorem dX12_worth_127 : decode cX12_worth 127 = .ok (.iaload, 1) := by decide +kernel
theorem dX12_worth_128 : decode cX12_worth 128 = .ok (.ifCond .ne 7, 3) := by decide +kernel
theorem dX12_worth_131 : decode cX12_worth 131 = .ok (.iconst 1, 1) := by decide +kernel
theorem dX12_worth_132 : decode cX12_worth 132 = .ok (.goto 4, 3) := by decide +kernel
theorem dX12_worth_135 : decode cX12_worth 135 = .ok (.iconst 0, 1) := by decide +kernel
theorem dX12_worth_136 : decode cX12_worth 136 = .ok (.iastore, 1) := by decide +kernel
theorem dX12_worth_137 : decode cX12_worth 137 = .ok (.goto 33, 3) := by decide +kernel
theorem dX12_worth_140 : decode cX12_worth 140 = .ok (.iinc 2 (-1), 3) := by decide +kernel
theorem dX12_worth_143 : decode cX12_worth 143 = .ok (.aload_n 0, 1) := by decide +kernel
theorem dX12_worth_144 : decode cX12_worth 144 = .ok (.getfield 106, 3) := by decide +kernel
theorem dX12_worth_147 : decode cX12_worth 147 = .ok (.iload_n 2, 1) := by decide +kernel
theorem dX12_worth_148 : decode cX12_worth 148 = .ok (.iconst 1, 1) := by decide +kernel
theorem dX12_worth_149 : decode cX12_worth 149 = .ok (.isub, 1) := by decide +kernel
theorem dX12_worth_150 : decode cX12_worth 150 = .ok (.iload 4, 2) := by decide +kernel
theorem dX12_worth_152 : decode cX12_worth 152 = .ok (.aload_n 0, 1) := by decide +kernel
theorem dX12_worth_153 : decode cX12_worth 153 = .ok (.getfield 106, 3) := by decide +kernel
theorem dX12_worth_156 : decode cX12_worth 156 = .ok (.iload_n 2, 1) := by decide +kernel
theorem dX12_worth_157 : decode cX12_worth 157 = .ok (.iconst 1, 1) := by decide +kernel
theorem dX12_worth_158 : decode cX12_worth 158 = .ok (.isub, 1) := by decide +kernel
theorem dX12_worth_159 : decode cX12_worth 159 = .ok (.iaload, 1) := by decide +kernel
theorem dX12_worth_160 : decode cX12_worth 160 = .ok (.aload_n 0, 1) := by decide +kernel
theorem dX12_worth_161 : decode cX12_worth 161 = .ok (.getfield 106, 3) := by decide +kernel
theorem dX12_worth_164 : decode cX12_worth 164 = .ok (.iload_n 2, 1) := by decide +kernel
theorem dX12_worth_165 : decode cX12_worth 165 = .ok (.iaload, 1) := by decide +kernel
theorem dX12_worth_166 : decode cX12_worth 166 = .ok (.invokestatic 345, 3) := by decide +kernel
theorem dX12_worth_169 : decode cX12_worth 169 = .ok (.iastore, 1) := by decide +kernel
theorem dX12_worth_170 : decode cX12_worth 170 = .ok (.iinc 3 1, 3) := by decide +kernel
theorem dX12_worth_173 : decode cX12_worth 173 = .ok (.goto (-169), 3) := by decide +kernel
theorem dX12_worth_176 : decode cX12_worth 176 = .ok (.aload_n 0, 1) := by decide +kernel
theorem dX12_worth_177 : decode cX12_worth 177 = .ok (.getfield 106, 3) := by decide +kernel
theorem dX12_worth_180 : decode cX12_worth 180 = .ok (.iconst 0, 1) := by decide +kernel
theorem dX12_worth_181 : decode cX12_worth 181 = .ok (.iaload, 1) := by decide +kernel
theorem dX12_worth_182 : decode cX12_worth 182 = .ok (.ireturn, 1) := by decide +kernel
theorem dX12_both_0 : decode cX12_both 0 = .ok (.iload_n 0, 1) := by decide +kernel
theorem dX12_both_1 : decode cX12_both 1 = .ok (.tableswitch 87 6 11 #[39, 43, 47, 51, 62, 73], 39) := by decide +kernel
theorem dX12_both_40 : decode cX12_both 40 = .ok (.iload_n 1, 1) := by decide +kernel
theorem dX12_both_41 : decode cX12_both 41 = .ok (.iload_n 2, 1) := by decide +kernel
theorem dX12_both_42 : decode cX12_both 42 = .ok (.iadd, 1) := by decide +kernel
theorem dX12_both_43 : decode cX12_both 43 = .ok (.ireturn, 1) := by decide +kernel
theorem dX12_both_44 : decode cX12_both 44 = .ok (.iload_n 1, 1) := by decide +kernel
theorem dX12_both_45 : decode cX12_both 45 = .ok (.iload_n 2, 1) := by decide +kernel
theorem dX12_both_46 : decode cX12_both 46 = .ok (.isub, 1) := by decide +kernel
theorem dX12_both_47 : decode cX12_both 47 = .ok (.ireturn, 1) := by decide +kernel
theorem dX12_both_48 : decode cX12_both 48 = .ok (.iload_n 1, 1) := by decide +kernel
theorem dX12_both_49 : decode cX12_both 49 = .ok (.iload_n 2, 1) := by decide +kernel
theorem dX12_both_50 : decode cX12_both 50 = .ok (.imul, 1) := by decide +kernel
theorem dX12_both_51 : decode cX12_both 51 = .ok (.ireturn, 1) := by decide +kernel
theorem dX12_both_52 : decode cX12_both 52 = .ok (.iload_n 1, 1) := by decide +kernel
theorem dX12_both_53 : decode cX12_both 53 = .ok (.iload_n 2, 1) := by decide +kernel
theorem dX12_both_54 : decode cX12_both 54 = .ok (.if_icmp .ge 7, 3) := by decide +kernel
theorem dX12_both_57 : decode cX12_both 57 = .ok (.iconst 1, 1) := by decide +kernel
theorem dX12_both_58 : decode cX12_both 58 = .ok (.goto 4, 3) := by decide +kernel
theorem dX12_both_61 : decode cX12_both 61 = .ok (.iconst 0, 1) := by decide +kernel
theorem dX12_both_62 : decode cX12_both 62 = .ok (.ireturn, 1) := by decide +kernel
theorem dX12_both_63 : decode cX12_both 63 = .ok (.iload_n 1, 1) := by decide +kernel
theorem dX12_both_64 : decode cX12_both 64 = .ok (.iload_n 2, 1) := by decide +kernel
theorem dX12_both_65 : decode cX12_both 65 = .ok (.if_icmp .ne 7, 3) := by decide +kernel
theorem dX12_both_68 : decode cX12_both 68 = .ok (.iconst 1, 1) := by decide +kernel
theorem dX12_both_69 : decode cX12_both 69 = .ok (.goto 4, 3) := by decide +kernel
theorem dX12_both_72 : decode cX12_both 72 = .ok (.iconst 0, 1) := by decide +kernel
theorem dX12_both_73 : decode cX12_both 73 = .ok (.ireturn, 1) := by decide +kernel
theorem dX12_both_74 : decode cX12_both 74 = .ok (.iload_n 1, 1) := by decide +kernel
theorem dX12_both_75 : decode cX12_both 75 = .ok (.ifCond .eq 11, 3) := by decide +kernel
theorem dX12_both_78 : decode cX12_both 78 = .ok (.iload_n 2, 1) := by decide +kernel
theorem dX12_both_79 : decode cX12_both 79 = .ok (.ifCond .eq 7, 3) := by decide +kernel
theorem dX12_both_82 : decode cX12_both 82 = .ok (.iconst 1, 1) := by decide +kernel
theorem dX12_both_83 : decode cX12_both 83 = .ok (.goto 4, 3) := by decide +kernel
theorem dX12_both_86 : decode cX12_both 86 = .ok (.iconst 0, 1) := by decide +kernel
theorem dX12_both_87 : decode cX12_both 87 = .ok (.ireturn, 1) := by decide +kernel
theorem dX12_both_88 : decode cX12_both 88 = .ok (.iload_n 1, 1) := by decide +kernel
theorem dX12_both_89 : decode cX12_both 89 = .ok (.ifCond .ne 7, 3) := by decide +kernel
theorem dX12_both_92 : decode cX12_both 92 = .ok (.iload_n 2, 1) := by decide +kernel
theorem dX12_both_93 : decode cX12_both 93 = .ok (.ifCond .eq 7, 3) := by decide +kernel
theorem dX12_both_96 : decode cX12_both 96 = .ok (.iconst 1, 1) := by decide +kernel
theorem dX12_both_97 : decode cX12_both 97 = .ok (.goto 4, 3) := by decide +kernel
theorem dX12_both_100 : decode cX12_both 100 = .ok (.iconst 0, 1) := by decide +kernel
theorem dX12_both_101 : decode cX12_both 101 = .ok (.ireturn, 1) := by decide +kernel
theorem dX12_judges_0 : decode cX12_judges 0 = .ok (.aload_n 0, 1) := by decide +kernel
theorem dX12_judges_1 : decode cX12_judges 1 = .ok (.iconst 0, 1) := by decide +kernel
theorem dX12_judges_2 : decode cX12_judges 2 = .ok (.putfield 349, 3) := by decide +kernel
theorem dX12_judges_5 : decode cX12_judges 5 = .ok (.aload_n 0, 1) := by decide +kernel
theorem dX12_judges_6 : decode cX12_judges 6 = .ok (.iconst 0, 1) := by decide +kernel
theorem dX12_judges_7 : decode cX12_judges 7 = .ok (.putfield 352, 3) := by decide +kernel
theorem dX12_judges_10 : decode cX12_judges 10 = .ok (.iload_n 1, 1) := by decide +kernel
theorem dX12_judges_11 : decode cX12_judges 11 = .ok (.ifCond .ge 4, 3) := by decide +kernel
theorem dX12_judges_14 : decode cX12_judges 14 = .ok (.return_, 1) := by decide +kernel
theorem dX12_judges_15 : decode cX12_judges 15 = .ok (.iconst 0, 1) := by decide +kernel
theorem dX12_judges_16 : decode cX12_judges 16 = .ok (.istore_n 2, 1) := by decide +kernel
theorem dX12_judges_17 : decode cX12_judges 17 = .ok (.iconst (-1), 1) := by decide +kernel
theorem dX12_judges_18 : decode cX12_judges 18 = .ok (.istore_n 3, 1) := by decide +kernel
theorem dX12_judges_19 : decode cX12_judges 19 = .ok (.iconst 0, 1) := by decide +kernel
theorem dX12_judges_20 : decode cX12_judges 20 = .ok (.istore 4, 2) := by decide +kernel
theorem dX12_judges_22 : decode cX12_judges 22 = .ok (.iconst 0, 1) := by decide +kernel
theorem dX12_judges_23 : decode cX12_judges 23 = .ok (.istore 5, 2) := by decide +kernel
theorem dX12_judges_25 : decode cX12_judges 25 = .ok (.bipush 16, 2) := by decide +kernel
theorem dX12_judges_27 : decode cX12_judges 27 = .ok (.iload_n 1, 1) := by decide +kernel
theorem dX12_judges_28 : decode cX12_judges 28 = .ok (.imul, 1) := by decide +kernel
theorem dX12_judges_29 : decode cX12_judges 29 = .ok (.istore 6, 2) := by decide +kernel
theorem dX12_judges_31 : decode cX12_judges 31 = .ok (.iload 6, 2) := by decide +kernel
theorem dX12_judges_33 : decode cX12_judges 33 = .ok (.bipush 16, 2) := by decide +kernel
theorem dX12_judges_35 : decode cX12_judges 35 = .ok (.iload_n 1, 1) := by decide +kernel
theorem dX12_judges_36 : decode cX12_judges 36 = .ok (.imul, 1) := by decide +kernel
theorem dX12_judges_37 : decode cX12_judges 37 = .ok (.aload_n 0, 1) := by decide +kernel
theorem dX12_judges_38 : decode cX12_judges 38 = .ok (.getfield 76, 3) := by decide +kernel
theorem dX12_judges_41 : decode cX12_judges 41 = .ok (.iload_n 1, 1) := by decide +kernel
theorem dX12_judges_42 : decode cX12_judges 42 = .ok (.iaload, 1) := by decide +kernel
theorem dX12_judges_43 : decode cX12_judges 43 = .ok (.iadd, 1) := by decide +kernel
theorem dX12_judges_44 : decode cX12_judges 44 = .ok (.if_icmp .ge 153, 3) := by decide +kernel
theorem dX12_judges_47 : decode cX12_judges 47 = .ok (.aload_n 0, 1) := by decide +kernel
theorem dX12_judges_48 : decode cX12_judges 48 = .ok (.getfield 79, 3) := by decide +kernel
theorem dX12_judges_51 : decode cX12_judges 51 = .ok (.iload 6, 2) := by decide +kernel
theorem dX12_judges_53 : decode cX12_judges 53 = .ok (.iaload, 1) := by decide +kernel
theorem dX12_judges_54 : decode cX12_judges 54 = .ok (.ifCond .ne 27, 3) := by decide +kernel
theorem dX12_judges_57 : decode cX12_judges 57 = .ok (.aload_n 0, 1) := by decide +kernel
theorem dX12_judges_58 : decode cX12_judges 58 = .ok (.getfield 103, 3) := by decide +kernel
theorem dX12_judges_61 : decode cX12_judges 61 = .ok (.iload 5, 2) := by decide +kernel
theorem dX12_judges_63 : decode cX12_judges 63 = .ok (.aload_n 0, 1) := by decide +kernel
theorem dX12_judges_64 : decode cX12_judges 64 = .ok (.aload_n 0, 1) := by decide +kernel
theorem dX12_judges_65 : decode cX12_judges 65 = .ok (.getfield 85, 3) := by decide +kernel
theorem dX12_judges_68 : decode cX12_judges 68 = .ok (.iload 6, 2) := by decide +kernel
theorem dX12_judges_70 : decode cX12_judges 70 = .ok (.iaload, 1) := by decide +kernel
theorem dX12_judges_71 : decode cX12_judges 71 = .ok (.invokevirtual 355, 3) := by decide +kernel
theorem dX12_judges_74 : decode cX12_judges 74 = .ok (.iastore, 1) := by decide +kernel
theorem dX12_judges_75 : decode cX12_judges 75 = .ok (.iinc 5 1, 3) := by decide +kernel
theorem dX12_judges_78 : decode cX12_judges 78 = .ok (.goto 113, 3) := by decide +kernel
theorem dX12_judges_81 : decode cX12_judges 81 = .ok (.aload_n 0, 1) := by decide +kernel
theorem dX12_judges_82 : decode cX12_judges 82 = .ok (.getfield 79, 3) := by decide +kernel
theorem dX12_judges_85 : decode cX12_judges 85 = .ok (.iload 6, 2) := by decide +kernel
theorem dX12_judges_87 : decode cX12_judges 87 = .ok (.iaload, 1) := by decide +kernel
theorem dX12_judges_88 : decode cX12_judges 88 = .ok (.iconst 2, 1) := by decide +kernel
theorem dX12_judges_89 : decode cX12_judges 89 = .ok (.if_icmp .ne 32, 3) := by decide +kernel
theorem dX12_judges_92 : decode cX12_judges 92 = .ok (.iload 4, 2) := by decide +kernel
theorem dX12_judges_94 : decode cX12_judges 94 = .ok (.ifCond .ne 17, 3) := by decide +kernel
theorem dX12_judges_97 : decode cX12_judges 97 = .ok (.aload_n 0, 1) := by decide +kernel
theorem dX12_judges_98 : decode cX12_judges 98 = .ok (.aload_n 0, 1) := by decide +kernel
theorem dX12_judges_99 : decode cX12_judges 99 = .ok (.getfield 85, 3) := by decide +kernel
theorem dX12_judges_102 : decode cX12_judges 102 = .ok (.iload 6, 2) := by decide +kernel
theorem dX12_judges_104 : decode cX12_judges 104 = .ok (.iaload, 1) := by decide +kernel
theorem dX12_judges_105 : decode cX12_judges 105 = .ok (.invokevirtual 355, 3) := by decide +kernel
theorem dX12_judges_108 : decode cX12_judges 108 = .ok (.ifCond .ne 7, 3) := by decide +kernel
theorem dX12_judges_111 : decode cX12_judges 111 = .ok (.iconst 1, 1) := by decide +kernel
theorem dX12_judges_112 : decode cX12_judges 112 = .ok (.goto 4, 3) := by decide +kernel
theorem dX12_judges_115 : decode cX12_judges 115 = .ok (.iconst 0, 1) := by decide +kernel
theorem dX12_judges_116 : decode cX12_judges 116 = .ok (.istore 4, 2) := by decide +kernel
theorem dX12_judges_118 : decode cX12_judges 118 = .ok (.goto 73, 3) := by decide +kernel
theorem dX12_judges_121 : decode cX12_judges 121 = .ok (.aload_n 0, 1) := by decide +kernel
theorem dX12_judges_122 : decode cX12_judges 122 = .ok (.aload_n 0, 1) := by decide +kernel
theorem dX12_judges_123 : decode cX12_judges 123 = .ok (.getfield 88, 3) := by decide +kernel
theorem dX12_judges_126 : decode cX12_judges 126 = .ok (.iload 6, 2) := by decide +kernel
theorem dX12_judges_128 : decode cX12_judges 128 = .ok (.iaload, 1) := by decide +kernel
theorem dX12_judges_129 : decode cX12_judges 129 = .ok (.invokevirtual 355, 3) := by decide +kernel
theorem dX12_judges_132 : decode cX12_judges 132 = .ok (.ifCond .eq 59, 3) := by decide +kernel
theorem dX12_judges_135 : decode cX12_judges 135 = .ok (.iload_n 2, 1) := by decide +kernel
theorem dX12_judges_136 : decode cX12_judges 136 = .ok (.aload_n 0, 1) := by decide +kernel
theorem dX12_judges_137 : decode cX12_judges 137 = .ok (.getfield 79, 3) := by decide +kernel
theorem dX12_judges_140 : decode cX12_judges 140 = .ok (.iload 6, 2) := by decide +kernel
theorem dX12_judges_142 : decode cX12_judges 142 = .ok (.iaload, 1) := by decide +kernel
theorem dX12_judges_143 : decode cX12_judges 143 = .ok (.iconst 1, 1) := by decide +kernel
theorem dX12_judges_144 : decode cX12_judges 144 = .ok (.if_icmp .ne 17, 3) := by decide +kernel
theorem dX12_judges_147 : decode cX12_judges 147 = .ok (.aload_n 0, 1) := by decide +kernel
theorem dX12_judges_148 : decode cX12_judges 148 = .ok (.aload_n 0, 1) := by decide +kernel
theorem dX12_judges_149 : decode cX12_judges 149 = .ok (.getfield 85, 3) := by decide +kernel
theorem dX12_judges_152 : decode cX12_judges 152 = .ok (.iload 6, 2) := by decide +kernel
theorem dX12_judges_154 : decode cX12_judges 154 = .ok (.iaload, 1) := by decide +kernel
theorem dX12_judges_155 : decode cX12_judges 155 = .ok (.invokevirtual 355, 3) := by decide +kernel
theorem dX12_judges_158 : decode cX12_judges 158 = .ok (.goto 4, 3) := by decide +kernel
theorem dX12_judges_161 : decode cX12_judges 161 = .ok (.iconst 0, 1) := by decide +kernel
theorem dX12_judges_162 : decode cX12_judges 162 = .ok (.iadd, 1) := by decide +kernel
theorem dX12_judges_163 : decode cX12_judges 163 = .ok (.istore_n 2, 1) := by decide +kernel
theorem dX12_judges_164 : decode cX12_judges 164 = .ok (.aload_n 0, 1) := by decide +kernel
theorem dX12_judges_165 : decode cX12_judges 165 = .ok (.getfield 79, 3) := by decide +kernel
theorem dX12_judges_168 : decode cX12_judges 168 = .ok (.iload 6, 2) := by decide +kernel
theorem dX12_judges_170 : decode cX12_judges 170 = .ok (.iaload, 1) := by decide +kernel
theorem dX12_judges_171 : decode cX12_judges 171 = .ok (.iconst 3, 1) := by decide +kernel
theorem dX12_judges_172 : decode cX12_judges 172 = .ok (.if_icmp .ne 17, 3) := by decide +kernel
theorem dX12_judges_175 : decode cX12_judges 175 = .ok (.iload_n 3, 1) := by decide +kernel
theorem dX12_judges_176 : decode cX12_judges 176 = .ok (.ifCond .ge 13, 3) := by decide +kernel
theorem dX12_judges_179 : decode cX12_judges 179 = .ok (.aload_n 0, 1) := by decide +kernel
theorem dX12_judges_180 : decode cX12_judges 180 = .ok (.getfield 82, 3) := by decide +kernel
theorem dX12_judges_183 : decode cX12_judges 183 = .ok (.iload 6, 2) := by decide +kernel
theorem dX12_judges_185 : decode cX12_judges 185 = .ok (.iaload, 1) := by decide +kernel
theorem dX12_judges_186 : decode cX12_judges 186 = .ok (.goto 4, 3) := by decide +kernel
theorem dX12_judges_189 : decode cX12_judges 189 = .ok (.iload_n 3, 1) := by decide +kernel
theorem dX12_judges_190 : decode cX12_judges 190 = .ok (.istore_n 3, 1) := by decide +kernel
theorem dX12_judges_191 : decode cX12_judges 191 = .ok (.iinc 6 1, 3) := by decide +kernel
theorem dX12_judges_194 : decode cX12_judges 194 = .ok (.goto (-163), 3) := by decide +kernel
theorem dX12_judges_197 : decode cX12_judges 197 = .ok (.aload_n 0, 1) := by decide +kernel
theorem dX12_judges_198 : decode cX12_judges 198 = .ok (.iload 4, 2) := by decide +kernel
theorem dX12_judges_200 : decode cX12_judges 200 = .ok (.ifCond .ne 7, 3) := by decide +kernel
theorem dX12_judges_203 : decode cX12_judges 203 = .ok (.iload_n 2, 1) := by decide +kernel
theorem dX12_judges_204 : decode cX12_judges 204 = .ok (.ifCond .ge 7, 3) := by decide +kernel
theorem dX12_judges_207 : decode cX12_judges 207 = .ok (.iconst 0, 1) := by decide +kernel
theorem dX12_judges_208 : decode cX12_judges 208 = .ok (.goto 17, 3) := by decide +kernel
theorem dX12_judges_211 : decode cX12_judges 211 = .ok (.iload_n 2, 1) := by decide +kernel
theorem dX12_judges_212 : decode cX12_judges 212 = .ok (.sipush 1000, 3) := by decide +kernel
theorem dX12_judges_215 : decode cX12_judges 215 = .ok (.if_icmp .le 9, 3) := by decide +kernel
theorem dX12_judges_218 : decode cX12_judges 218 = .ok (.sipush 1000, 3) := by decide +kernel
theorem dX12_judges_221 : decode cX12_judges 221 = .ok (.goto 4, 3) := by decide +kernel
theorem dX12_judges_224 : decode cX12_judges 224 = .ok (.iload_n 2, 1) := by decide +kernel
theorem dX12_judges_225 : decode cX12_judges 225 = .ok (.putfield 349, 3) := by decide +kernel
theorem dX12_judges_228 : decode cX12_judges 228 = .ok (.aload_n 0, 1) := by decide +kernel
theorem dX12_judges_229 : decode cX12_judges 229 = .ok (.iload 4, 2) := by decide +kernel
theorem dX12_judges_231 : decode cX12_judges 231 = .ok (.ifCond .ne 7, 3) := by decide +kernel
theorem dX12_judges_234 : decode cX12_judges 234 = .ok (.iload_n 3, 1) := by decide +kernel
theorem dX12_judges_235 : decode cX12_judges 235 = .ok (.ifCond .ge 7, 3) := by decide +kernel
theorem dX12_judges_238 : decode cX12_judges 238 = .ok (.iconst 0, 1) := by decide +kernel
theorem dX12_judges_239 : decode cX12_judges 239 = .ok (.goto 4, 3) := by decide +kernel
theorem dX12_judges_242 : decode cX12_judges 242 = .ok (.iload_n 3, 1) := by decide +kernel
theorem dX12_judges_243 : decode cX12_judges 243 = .ok (.putfield 352, 3) := by decide +kernel
theorem dX12_judges_246 : decode cX12_judges 246 = .ok (.return_, 1) := by decide +kernel
theorem dX12_within_0 : decode cX12_within 0 = .ok (.iload_n 0, 1) := by decide +kernel
theorem dX12_within_1 : decode cX12_within 1 = .ok (.iload_n 1, 1) := by decide +kernel
theorem dX12_within_2 : decode cX12_within 2 = .ok (.if_icmp .lt 12, 3) := by decide +kernel
theorem dX12_within_5 : decode cX12_within 5 = .ok (.iload_n 0, 1) := by decide +kernel
theorem dX12_within_6 : decode cX12_within 6 = .ok (.iload_n 2, 1) := by decide +kernel
theorem dX12_within_7 : decode cX12_within 7 = .ok (.if_icmp .gt 7, 3) := by decide +kernel
theorem dX12_within_10 : decode cX12_within 10 = .ok (.iconst 1, 1) := by decide +kernel
theorem dX12_within_11 : decode cX12_within 11 = .ok (.goto 4, 3) := by decide +kernel
theorem dX12_within_14 : decode cX12_within 14 = .ok (.iconst 0, 1) := by decide +kernel
theorem dX12_within_15 : decode cX12_within 15 = .ok (.ireturn, 1) := by decide +kernel
theorem dX12_isPlace_0 : decode cX12_isPlace 0 = .ok (.iload_n 0, 1) := by decide +kernel
theorem dX12_isPlace_1 : decode cX12_isPlace 1 = .ok (.iconst 0, 1) := by decide +kernel
theorem dX12_isPlace_2 : decode cX12_isPlace 2 = .ok (.bipush 99, 2) := by decide +kernel
theorem dX12_isPlace_4 : decode cX12_isPlace 4 = .ok (.invokestatic 358, 3) := by decide +kernel
theorem dX12_isPlace_7 : decode cX12_isPlace 7 = .ok (.ifCond .eq 17, 3) := by decide +kernel
theorem dX12_isPlace_10 : decode cX12_isPlace 10 = .ok (.iload_n 1, 1) := by decide +kernel
theorem dX12_isPlace_11 : decode cX12_isPlace 11 = .ok (.iconst 0, 1) := by decide +kernel
theorem dX12_isPlace_12 : decode cX12_isPlace 12 = .ok (.bipush 99, 2) := by decide +kernel
theorem dX12_isPlace_14 : decode cX12_isPlace 14 = .ok (.invokestatic 358, 3) := by decide +kernel
theorem dX12_isPlace_17 : decode cX12_isPlace 17 = .ok (.ifCond .eq 7, 3) := by decide +kernel
theorem dX12_isPlace_20 : decode cX12_isPlace 20 = .ok (.iconst 1, 1) := by decide +kernel
theorem dX12_isPlace_21 : decode cX12_isPlace 21 = .ok (.goto 4, 3) := by decide +kernel
theorem dX12_isPlace_24 : decode cX12_isPlace 24 = .ok (.iconst 0, 1) := by decide +kernel
theorem dX12_isPlace_25 : decode cX12_isPlace 25 = .ok (.ireturn, 1) := by decide +kernel
theorem dX12_isDay_0 : decode cX12_isDay 0 = .ok (.iload_n 0, 1) := by decide +kernel
theorem dX12_isDay_1 : decode cX12_isDay 1 = .ok (.iconst 0, 1) := by decide +kernel
theorem dX12_isDay_2 : decode cX12_isDay 2 = .ok (.sipush 9999, 3) := by decide +kernel
theorem dX12_isDay_5 : decode cX12_isDay 5 = .ok (.invokestatic 358, 3) := by decide +kernel
theorem dX12_isDay_8 : decode cX12_isDay 8 = .ok (.ireturn, 1) := by decide +kernel
theorem dX12_days_0 : decode cX12_days 0 = .ok (.aload_n 0, 1) := by decide +kernel
theorem dX12_days_1 : decode cX12_days 1 = .ok (.iconst 0, 1) := by decide +kernel
theorem dX12_days_2 : decode cX12_days 2 = .ok (.putfield 1, 3) := by decide +kernel
theorem dX12_days_5 : decode cX12_days 5 = .ok (.iload_n 1, 1) := by decide +kernel
theorem dX12_days_6 : decode cX12_days 6 = .ok (.iconst 0, 1) := by decide +kernel
theorem dX12_days_7 : decode cX12_days 7 = .ok (.sipush 1000, 3) := by decide +kernel
theorem dX12_days_10 : decode cX12_days 10 = .ok (.invokestatic 358, 3) := by decide +kernel
theorem dX12_days_13 : decode cX12_days 13 = .ok (.ifCond .eq 15, 3) := by decide +kernel
theorem dX12_days_16 : decode cX12_days 16 = .ok (.aload_n 0, 1) := by decide +kernel
theorem dX12_days_17 : decode cX12_days 17 = .ok (.getfield 295, 3) := by decide +kernel
theorem dX12_days_20 : decode cX12_days 20 = .ok (.iload_n 1, 1) := by decide +kernel
theorem dX12_days_21 : decode cX12_days 21 = .ok (.iadd, 1) := by decide +kernel
theorem dX12_days_22 : decode cX12_days 22 = .ok (.sipush 9999, 3) := by decide +kernel
theorem dX12_days_25 : decode cX12_days 25 = .ok (.if_icmp .le 5, 3) := by decide +kernel
theorem dX12_days_28 : decode cX12_days 28 = .ok (.iconst (-1), 1) := by decide +kernel
theorem dX12_days_29 : decode cX12_days 29 = .ok (.ireturn, 1) := by decide +kernel
theorem dX12_days_30 : decode cX12_days 30 = .ok (.aload_n 0, 1) := by decide +kernel
theorem dX12_days_31 : decode cX12_days 31 = .ok (.dup, 1) := by decide +kernel
theorem dX12_days_32 : decode cX12_days 32 = .ok (.getfield 295, 3) := by decide +kernel
theorem dX12_days_35 : decode cX12_days 35 = .ok (.iload_n 1, 1) := by decide +kernel
theorem dX12_days_36 : decode cX12_days 36 = .ok (.iadd, 1) := by decide +kernel
theorem dX12_days_37 : decode cX12_days 37 = .ok (.putfield 295, 3) := by decide +kernel
theorem dX12_days_40 : decode cX12_days 40 = .ok (.aload_n 0, 1) := by decide +kernel
theorem dX12_days_41 : decode cX12_days 41 = .ok (.getfield 295, 3) := by decide +kernel
theorem dX12_days_44 : decode cX12_days 44 = .ok (.ireturn, 1) := by decide +kernel
theorem dX12_view_0 : decode cX12_view 0 = .ok (.aload_n 0, 1) := by decide +kernel
theorem dX12_view_1 : decode cX12_view 1 = .ok (.iconst 0, 1) := by decide +kernel
theorem dX12_view_2 : decode cX12_view 2 = .ok (.putfield 1, 3) := by decide +kernel
theorem dX12_view_5 : decode cX12_view 5 = .ok (.iload_n 1, 1) := by decide +kernel
theorem dX12_view_6 : decode cX12_view 6 = .ok (.iconst 0, 1) := by decide +kernel
theorem dX12_view_7 : decode cX12_view 7 = .ok (.aload_n 0, 1) := by decide +kernel
theorem dX12_view_8 : decode cX12_view 8 = .ok (.getfield 295, 3) := by decide +kernel
theorem dX12_view_11 : decode cX12_view 11 = .ok (.invokestatic 358, 3) := by decide +kernel
theorem dX12_view_14 : decode cX12_view 14 = .ok (.ifCond .ne 5, 3) := by decide +kernel
theorem dX12_view_17 : decode cX12_view 17 = .ok (.iconst 0, 1) := by decide +kernel
theorem dX12_view_18 : decode cX12_view 18 = .ok (.ireturn, 1) := by decide +kernel
theorem dX12_view_19 : decode cX12_view 19 = .ok (.aload_n 0, 1) := by decide +kernel
theorem dX12_view_20 : decode cX12_view 20 = .ok (.iload_n 1, 1) := by decide +kernel
theorem dX12_view_21 : decode cX12_view 21 = .ok (.aload_n 0, 1) := by decide +kernel
theorem dX12_view_22 : decode cX12_view 22 = .ok (.getfield 295, 3) := by decide +kernel
theorem dX12_view_25 : decode cX12_view 25 = .ok (.if_icmp .ne 7, 3) := by decide +kernel
theorem dX12_view_28 : decode cX12_view 28 = .ok (.iconst (-1), 1) := by decide +kernel
theorem dX12_view_29 : decode cX12_view 29 = .ok (.goto 4, 3) := by decide +kernel
theorem dX12_view_32 : decode cX12_view 32 = .ok (.iload_n 1, 1) := by decide +kernel
theorem dX12_view_33 : decode cX12_view 33 = .ok (.putfield 216, 3) := by decide +kernel
theorem dX12_view_36 : decode cX12_view 36 = .ok (.iconst 1, 1) := by decide +kernel
theorem dX12_view_37 : decode cX12_view 37 = .ok (.ireturn, 1) := by decide +kernel
theorem dX12_viewDay_0 : decode cX12_viewDay 0 = .ok (.aload_n 0, 1) := by decide +kernel
theorem dX12_viewDay_1 : decode cX12_viewDay 1 = .ok (.getfield 216, 3) := by decide +kernel
theorem dX12_viewDay_4 : decode cX12_viewDay 4 = .ok (.ifCond .ge 10, 3) := by decide +kernel
theorem dX12_viewDay_7 : decode cX12_viewDay 7 = .ok (.aload_n 0, 1) := by decide +kernel
theorem dX12_viewDay_8 : decode cX12_viewDay 8 = .ok (.getfield 295, 3) := by decide +kernel
theorem dX12_viewDay_11 : decode cX12_viewDay 11 = .ok (.goto 7, 3) := by decide +kernel
theorem dX12_viewDay_14 : decode cX12_viewDay 14 = .ok (.aload_n 0, 1) := by decide +kernel
theorem dX12_viewDay_15 : decode cX12_viewDay 15 = .ok (.getfield 216, 3) := by decide +kernel
theorem dX12_viewDay_18 : decode cX12_viewDay 18 = .ok (.ireturn, 1) := by decide +kernel
theorem dX12_shop_0 : decode cX12_shop 0 = .ok (.aload_n 0, 1) := by decide +kernel
theorem dX12_shop_1 : decode cX12_shop 1 = .ok (.iconst 0, 1) := by decide +kernel
theorem dX12_shop_2 : decode cX12_shop 2 = .ok (.putfield 1, 3) := by decide +kernel
theorem dX12_shop_5 : decode cX12_shop 5 = .ok (.iload_n 1, 1) := by decide +kernel
theorem dX12_shop_6 : decode cX12_shop 6 = .ok (.iload_n 2, 1) := by decide +kernel
theorem dX12_shop_7 : decode cX12_shop 7 = .ok (.invokestatic 362, 3) := by decide +kernel
theorem dX12_shop_10 : decode cX12_shop 10 = .ok (.ifCond .eq 46, 3) := by decide +kernel
theorem dX12_shop_13 : decode cX12_shop 13 = .ok (.iload_n 3, 1) := by decide +kernel
theorem dX12_shop_14 : decode cX12_shop 14 = .ok (.iconst 0, 1) := by decide +kernel
theorem dX12_shop_15 : decode cX12_shop 15 = .ok (.iconst 3, 1) := by decide +kernel
theorem dX12_shop_16 : decode cX12_shop 16 = .ok (.invokestatic 358, 3) := by decide +kernel
theorem dX12_shop_19 : decode cX12_shop 19 = .ok (.ifCond .eq 37, 3) := by decide +kernel
theorem dX12_shop_22 : decode cX12_shop 22 = .ok (.iload 4, 2) := by decide +kernel
theorem dX12_shop_24 : decode cX12_shop 24 = .ok (.iconst 0, 1) := by decide +kernel
theorem dX12_shop_25 : decode cX12_shop 25 = .ok (.sipush 1439, 3) := by decide +kernel
theorem dX12_shop_28 : decode cX12_shop 28 = .ok (.invokestatic 358, 3) := by decide +kernel
theorem dX12_shop_31 : decode cX12_shop 31 = .ok (.ifCond .eq 25, 3) := by decide +kernel
theorem dX12_shop_34 : decode cX12_shop 34 = .ok (.iload 5, 2) := by decide +kernel
theorem dX12_shop_36 : decode cX12_shop 36 = .ok (.iload 4, 2) := by decide +kernel
theorem dX12_shop_38 : decode cX12_shop 38 = .ok (.sipush 1439, 3) := by decide +kernel
theorem dX12_shop_41 : decode cX12_shop 41 = .ok (.invokestatic 358, 3) := by decide +kernel
theorem dX12_shop_44 : decode cX12_shop 44 = .ok (.ifCond .eq 12, 3) := by decide +kernel
theorem dX12_shop_47 : decode cX12_shop 47 = .ok (.aload_n 0, 1) := by decide +kernel
theorem dX12_shop_48 : decode cX12_shop 48 = .ok (.getfield 366, 3) := by decide +kernel
theorem dX12_shop_51 : decode cX12_shop 51 = .ok (.bipush 20, 2) := by decide +kernel
theorem dX12_shop_53 : decode cX12_shop 53 = .ok (.if_icmp .ne 5, 3) := by decide +kernel
theorem dX12_shop_56 : decode cX12_shop 56 = .ok (.iconst (-1), 1) := by decide +kernel
theorem dX12_shop_57 : decode cX12_shop 57 = .ok (.ireturn, 1) := by decide +kernel
theorem dX12_shop_58 : decode cX12_shop 58 = .ok (.aload_n 0, 1) := by decide +kernel
theorem dX12_shop_59 : decode cX12_shop 59 = .ok (.getfield 109, 3) := by decide +kernel
theorem dX12_shop_62 : decode cX12_shop 62 = .ok (.aload_n 0, 1) := by decide +kernel
theorem dX12_shop_63 : decode cX12_shop 63 = .ok (.getfield 366, 3) := by decide +kernel
theorem dX12_shop_66 : decode cX12_shop 66 = .ok (.iload_n 1, 1) := by decide +kernel
theorem dX12_shop_67 : decode cX12_shop 67 = .ok (.iastore, 1) := by decide +kernel
theorem dX12_shop_68 : decode cX12_shop 68 = .ok (.aload_n 0, 1) := by decide +kernel
theorem dX12_shop_69 : decode cX12_shop 69 = .ok (.getfield 112, 3) := by decide +kernel
theorem dX12_shop_72 : decode cX12_shop 72 = .ok (.aload_n 0, 1) := by decide +kernel
theorem dX12_shop_73 : decode cX12_shop 73 = .ok (.getfield 366, 3) := by decide +kernel
theorem dX12_shop_76 : decode cX12_shop 76 = .ok (.iload_n 2, 1) := by decide +kernel
theorem dX12_shop_77 : decode cX12_shop 77 = .ok (.iastore, 1) := by decide +kernel
theorem dX12_shop_78 : decode cX12_shop 78 = .ok (.aload_n 0, 1) := by decide +kernel
theorem dX12_shop_79 : decode cX12_shop 79 = .ok (.getfield 115, 3) := by decide +kernel
theorem dX12_shop_82 : decode cX12_shop 82 = .ok (.aload_n 0, 1) := by decide +kernel
theorem dX12_shop_83 : decode cX12_shop 83 = .ok (.getfield 366, 3) := by decide +kernel
theorem dX12_shop_86 : decode cX12_shop 86 = .ok (.iload_n 3, 1) := by decide +kernel
theorem dX12_shop_87 : decode cX12_shop 87 = .ok (.iastore, 1) := by decide +kernel
theorem dX12_shop_88 : decode cX12_shop 88 = .ok (.aload_n 0, 1) := by decide +kernel
theorem dX12_shop_89 : decode cX12_shop 89 = .ok (.getfield 118, 3) := by decide +kernel
theorem dX12_shop_92 : decode cX12_shop 92 = .ok (.aload_n 0, 1) := by decide +kernel
theorem dX12_shop_93 : decode cX12_shop 93 = .ok (.getfield 366, 3) := by decide +kernel
theorem dX12_shop_96 : decode cX12_shop 96 = .ok (.iload 4, 2) := by decide +kernel
theorem dX12_shop_98 : decode cX12_shop 98 = .ok (.iastore, 1) := by decide +kernel
theorem dX12_shop_99 : decode cX12_shop 99 = .ok (.aload_n 0, 1) := by decide +kernel
theorem dX12_shop_100 : decode cX12_shop 100 = .ok (.getfield 121, 3) := by decide +kernel
theorem dX12_shop_103 : decode cX12_shop 103 = .ok (.aload_n 0, 1) := by decide +kernel
theorem dX12_shop_104 : decode cX12_shop 104 = .ok (.getfield 366, 3) := by decide +kernel
theorem dX12_shop_107 : decode cX12_shop 107 = .ok (.iload 5, 2) := by decide +kernel
theorem dX12_shop_109 : decode cX12_shop 109 = .ok (.iastore, 1) := by decide +kernel
theorem dX12_shop_110 : decode cX12_shop 110 = .ok (.aload_n 0, 1) := by decide +kernel
theorem dX12_shop_111 : decode cX12_shop 111 = .ok (.getfield 124, 3) := by decide +kernel
theorem dX12_shop_114 : decode cX12_shop 114 = .ok (.aload_n 0, 1) := by decide +kernel
theorem dX12_shop_115 : decode cX12_shop 115 = .ok (.getfield 366, 3) := by decide +kernel
theorem dX12_shop_118 : decode cX12_shop 118 = .ok (.iload 6, 2) := by decide +kernel
theorem dX12_shop_120 : decode cX12_shop 120 = .ok (.bastore, 1) := by decide +kernel
theorem dX12_shop_121 : decode cX12_shop 121 = .ok (.aload_n 0, 1) := by decide +kernel
theorem dX12_shop_122 : decode cX12_shop 122 = .ok (.dup, 1) := by decide +kernel
theorem dX12_shop_123 : decode cX12_shop 123 = .ok (.getfield 366, 3) := by decide +kernel
theorem dX12_shop_126 : decode cX12_shop 126 = .ok (.iconst 1, 1) := by decide +kernel
theorem dX12_shop_127 : decode cX12_shop 127 = .ok (.iadd, 1) := by decide +kernel
theorem dX12_shop_128 : decode cX12_shop 128 = .ok (.putfield 366, 3) := by decide +kernel
theorem dX12_shop_131 : decode cX12_shop 131 = .ok (.aload_n 0, 1) := by decide +kernel
theorem dX12_shop_132 : decode cX12_shop 132 = .ok (.getfield 366, 3) := by decide +kernel
theorem dX12_shop_135 : decode cX12_shop 135 = .ok (.iconst 1, 1) := by decide +kernel
theorem dX12_shop_136 : decode cX12_shop 136 = .ok (.isub, 1) := by decide +kernel
theorem dX12_shop_137 : decode cX12_shop 137 = .ok (.ireturn, 1) := by decide +kernel
theorem dX12_buyer_0 : decode cX12_buyer 0 = .ok (.aload_n 0, 1) := by decide +kernel
theorem dX12_buyer_1 : decode cX12_buyer 1 = .ok (.iconst 0, 1) := by decide +kernel
theorem dX12_buyer_2 : decode cX12_buyer 2 = .ok (.putfield 1, 3) := by decide +kernel
theorem dX12_buyer_5 : decode cX12_buyer 5 = .ok (.iload_n 1, 1) := by decide +kernel
theorem dX12_buyer_6 : decode cX12_buyer 6 = .ok (.iload_n 2, 1) := by decide +kernel
theorem dX12_buyer_7 : decode cX12_buyer 7 = .ok (.invokestatic 362, 3) := by decide +kernel
theorem dX12_buyer_10 : decode cX12_buyer 10 = .ok (.ifCond .eq 12, 3) := by decide +kernel
theorem dX12_buyer_13 : decode cX12_buyer 13 = .ok (.aload_n 0, 1) := by decide +kernel
theorem dX12_buyer_14 : decode cX12_buyer 14 = .ok (.getfield 369, 3) := by decide +kernel
theorem dX12_buyer_17 : decode cX12_buyer 17 = .ok (.bipush 8, 2) := by decide +kernel
theorem dX12_buyer_19 : decode cX12_buyer 19 = .ok (.if_icmp .ne 5, 3) := by decide +kernel
theorem dX12_buyer_22 : decode cX12_buyer 22 = .ok (.iconst (-1), 1) := by decide +kernel
theorem dX12_buyer_23 : decode cX12_buyer 23 = .ok (.ireturn, 1) := by decide +kernel
theorem dX12_buyer_24 : decode cX12_buyer 24 = .ok (.aload_n 0, 1) := by decide +kernel
theorem dX12_buyer_25 : decode cX12_buyer 25 = .ok (.getfield 128, 3) := by decide +kernel
theorem dX12_buyer_28 : decode cX12_buyer 28 = .ok (.aload_n 0, 1) := by decide +kernel
theorem dX12_buyer_29 : decode cX12_buyer 29 = .ok (.getfield 369, 3) := by decide +kernel
theorem dX12_buyer_32 : decode cX12_buyer 32 = .ok (.iload_n 1, 1) := by decide +kernel
