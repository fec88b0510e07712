theorem dX0_init_0 : decode cX0_init 0 = .ok (.aload_n 0, 1) := by decide +kernel
theorem dX0_init_1 : decode cX0_init 1 = .ok (.invokespecial 3, 3) := by decide +kernel
theorem dX0_init_4 : decode cX0_init 4 = .ok (.aload_n 0, 1) := by decide +kernel
theorem dX0_init_5 : decode cX0_init 5 = .ok (.bipush 20, 2) := by decide +kernel
theorem dX0_init_7 : decode cX0_init 7 = .ok (.anewarray 9, 3) := by decide +kernel
theorem dX0_init_10 : decode cX0_init 10 = .ok (.putfield 11, 3) := by decide +kernel
theorem dX0_init_13 : decode cX0_init 13 = .ok (.aload_n 0, 1) := by decide +kernel
theorem dX0_init_14 : decode cX0_init 14 = .ok (.bipush 8, 2) := by decide +kernel
theorem dX0_init_16 : decode cX0_init 16 = .ok (.anewarray 17, 3) := by decide +kernel
theorem dX0_init_19 : decode cX0_init 19 = .ok (.putfield 19, 3) := by decide +kernel
theorem dX0_init_22 : decode cX0_init 22 = .ok (.aload_n 0, 1) := by decide +kernel
theorem dX0_init_23 : decode cX0_init 23 = .ok (.bipush 120, 2) := by decide +kernel
theorem dX0_init_25 : decode cX0_init 25 = .ok (.anewarray 23, 3) := by decide +kernel
theorem dX0_init_28 : decode cX0_init 28 = .ok (.putfield 25, 3) := by decide +kernel
theorem dX0_init_31 : decode cX0_init 31 = .ok (.aload_n 0, 1) := by decide +kernel
theorem dX0_init_32 : decode cX0_init 32 = .ok (.bipush 120, 2) := by decide +kernel
theorem dX0_init_34 : decode cX0_init 34 = .ok (.anewarray 23, 3) := by decide +kernel
theorem dX0_init_37 : decode cX0_init 37 = .ok (.putfield 29, 3) := by decide +kernel
theorem dX0_init_40 : decode cX0_init 40 = .ok (.aload_n 0, 1) := by decide +kernel
theorem dX0_init_41 : decode cX0_init 41 = .ok (.bipush 16, 2) := by decide +kernel
theorem dX0_init_43 : decode cX0_init 43 = .ok (.anewarray 32, 3) := by decide +kernel
theorem dX0_init_46 : decode cX0_init 46 = .ok (.putfield 34, 3) := by decide +kernel
theorem dX0_init_49 : decode cX0_init 49 = .ok (.aload_n 0, 1) := by decide +kernel
theorem dX0_init_50 : decode cX0_init 50 = .ok (.bipush 60, 2) := by decide +kernel
theorem dX0_init_52 : decode cX0_init 52 = .ok (.newarray .int, 2) := by decide +kernel
theorem dX0_init_54 : decode cX0_init 54 = .ok (.putfield 38, 3) := by decide +kernel
theorem dX0_init_57 : decode cX0_init 57 = .ok (.aload_n 0, 1) := by decide +kernel
theorem dX0_init_58 : decode cX0_init 58 = .ok (.bipush 60, 2) := by decide +kernel
theorem dX0_init_60 : decode cX0_init 60 = .ok (.newarray .int, 2) := by decide +kernel
theorem dX0_init_62 : decode cX0_init 62 = .ok (.putfield 42, 3) := by decide +kernel
theorem dX0_init_65 : decode cX0_init 65 = .ok (.aload_n 0, 1) := by decide +kernel
theorem dX0_init_66 : decode cX0_init 66 = .ok (.bipush 60, 2) := by decide +kernel
theorem dX0_init_68 : decode cX0_init 68 = .ok (.newarray .int, 2) := by decide +kernel
theorem dX0_init_70 : decode cX0_init 70 = .ok (.putfield 45, 3) := by decide +kernel
theorem dX0_init_73 : decode cX0_init 73 = .ok (.aload_n 0, 1) := by decide +kernel
theorem dX0_init_74 : decode cX0_init 74 = .ok (.iconst (-1), 1) := by decide +kernel
theorem dX0_init_75 : decode cX0_init 75 = .ok (.putfield 48, 3) := by decide +kernel
theorem dX0_init_78 : decode cX0_init 78 = .ok (.aload_n 0, 1) := by decide +kernel
theorem dX0_init_79 : decode cX0_init 79 = .ok (.iconst 5, 1) := by decide +kernel
theorem dX0_init_80 : decode cX0_init 80 = .ok (.putfield 52, 3) := by decide +kernel
theorem dX0_init_83 : decode cX0_init 83 = .ok (.aload_n 0, 1) := by decide +kernel
theorem dX0_init_84 : decode cX0_init 84 = .ok (.bipush 30, 2) := by decide +kernel
theorem dX0_init_86 : decode cX0_init 86 = .ok (.putfield 55, 3) := by decide +kernel
theorem dX0_init_89 : decode cX0_init 89 = .ok (.aload_n 0, 1) := by decide +kernel
theorem dX0_init_90 : decode cX0_init 90 = .ok (.bipush 60, 2) := by decide +kernel
theorem dX0_init_92 : decode cX0_init 92 = .ok (.putfield 58, 3) := by decide +kernel
theorem dX0_init_95 : decode cX0_init 95 = .ok (.return_, 1) := by decide +kernel
theorem dX0_hasShop_0 : decode cX0_hasShop 0 = .ok (.iload_n 1, 1) := by decide +kernel
theorem dX0_hasShop_1 : decode cX0_hasShop 1 = .ok (.iconst 0, 1) := by decide +kernel
theorem dX0_hasShop_2 : decode cX0_hasShop 2 = .ok (.aload_n 0, 1) := by decide +kernel
theorem dX0_hasShop_3 : decode cX0_hasShop 3 = .ok (.getfield 61, 3) := by decide +kernel
theorem dX0_hasShop_6 : decode cX0_hasShop 6 = .ok (.iconst 1, 1) := by decide +kernel
theorem dX0_hasShop_7 : decode cX0_hasShop 7 = .ok (.isub, 1) := by decide +kernel
theorem dX0_hasShop_8 : decode cX0_hasShop 8 = .ok (.invokestatic 64, 3) := by decide +kernel
theorem dX0_hasShop_11 : decode cX0_hasShop 11 = .ok (.ireturn, 1) := by decide +kernel
theorem dX0_hasBuyer_0 : decode cX0_hasBuyer 0 = .ok (.iload_n 1, 1) := by decide +kernel
theorem dX0_hasBuyer_1 : decode cX0_hasBuyer 1 = .ok (.iconst 0, 1) := by decide +kernel
theorem dX0_hasBuyer_2 : decode cX0_hasBuyer 2 = .ok (.aload_n 0, 1) := by decide +kernel
theorem dX0_hasBuyer_3 : decode cX0_hasBuyer 3 = .ok (.getfield 68, 3) := by decide +kernel
theorem dX0_hasBuyer_6 : decode cX0_hasBuyer 6 = .ok (.iconst 1, 1) := by decide +kernel
theorem dX0_hasBuyer_7 : decode cX0_hasBuyer 7 = .ok (.isub, 1) := by decide +kernel
theorem dX0_hasBuyer_8 : decode cX0_hasBuyer 8 = .ok (.invokestatic 64, 3) := by decide +kernel
theorem dX0_hasBuyer_11 : decode cX0_hasBuyer 11 = .ok (.ireturn, 1) := by decide +kernel
theorem dX0_seenDay_0 : decode cX0_seenDay 0 = .ok (.aload_n 0, 1) := by decide +kernel
theorem dX0_seenDay_1 : decode cX0_seenDay 1 = .ok (.getfield 48, 3) := by decide +kernel
theorem dX0_seenDay_4 : decode cX0_seenDay 4 = .ok (.iconst (-1), 1) := by decide +kernel
theorem dX0_seenDay_5 : decode cX0_seenDay 5 = .ok (.if_icmp .ne 10, 3) := by decide +kernel
theorem dX0_seenDay_8 : decode cX0_seenDay 8 = .ok (.aload_n 0, 1) := by decide +kernel
theorem dX0_seenDay_9 : decode cX0_seenDay 9 = .ok (.getfield 71, 3) := by decide +kernel
theorem dX0_seenDay_12 : decode cX0_seenDay 12 = .ok (.goto 7, 3) := by decide +kernel
theorem dX0_seenDay_15 : decode cX0_seenDay 15 = .ok (.aload_n 0, 1) := by decide +kernel
theorem dX0_seenDay_16 : decode cX0_seenDay 16 = .ok (.getfield 48, 3) := by decide +kernel
theorem dX0_seenDay_19 : decode cX0_seenDay 19 = .ok (.ireturn, 1) := by decide +kernel
theorem dX0_isKnown_0 : decode cX0_isKnown 0 = .ok (.iload_n 1, 1) := by decide +kernel
theorem dX0_isKnown_1 : decode cX0_isKnown 1 = .ok (.iconst 0, 1) := by decide +kernel
theorem dX0_isKnown_2 : decode cX0_isKnown 2 = .ok (.aload_n 0, 1) := by decide +kernel
theorem dX0_isKnown_3 : decode cX0_isKnown 3 = .ok (.getfield 74, 3) := by decide +kernel
theorem dX0_isKnown_6 : decode cX0_isKnown 6 = .ok (.iconst 1, 1) := by decide +kernel
theorem dX0_isKnown_7 : decode cX0_isKnown 7 = .ok (.isub, 1) := by decide +kernel
theorem dX0_isKnown_8 : decode cX0_isKnown 8 = .ok (.invokestatic 64, 3) := by decide +kernel
theorem dX0_isKnown_11 : decode cX0_isKnown 11 = .ok (.ifCond .eq 20, 3) := by decide +kernel
theorem dX0_isKnown_14 : decode cX0_isKnown 14 = .ok (.aload_n 0, 1) := by decide +kernel
theorem dX0_isKnown_15 : decode cX0_isKnown 15 = .ok (.aload_n 0, 1) := by decide +kernel
theorem dX0_isKnown_16 : decode cX0_isKnown 16 = .ok (.getfield 25, 3) := by decide +kernel
theorem dX0_isKnown_19 : decode cX0_isKnown 19 = .ok (.iload_n 1, 1) := by decide +kernel
theorem dX0_isKnown_20 : decode cX0_isKnown 20 = .ok (.aaload, 1) := by decide +kernel
theorem dX0_isKnown_21 : decode cX0_isKnown 21 = .ok (.invokevirtual 77, 3) := by decide +kernel
theorem dX0_isKnown_24 : decode cX0_isKnown 24 = .ok (.ifCond .eq 7, 3) := by decide +kernel
theorem dX0_isKnown_27 : decode cX0_isKnown 27 = .ok (.iconst 1, 1) := by decide +kernel
theorem dX0_isKnown_28 : decode cX0_isKnown 28 = .ok (.goto 4, 3) := by decide +kernel
theorem dX0_isKnown_31 : decode cX0_isKnown 31 = .ok (.iconst 0, 1) := by decide +kernel
theorem dX0_isKnown_32 : decode cX0_isKnown 32 = .ok (.ireturn, 1) := by decide +kernel
theorem dX0_isSeen_0 : decode cX0_isSeen 0 = .ok (.aload_n 1, 1) := by decide +kernel
theorem dX0_isSeen_1 : decode cX0_isSeen 1 = .ok (.getfield 81, 3) := by decide +kernel
theorem dX0_isSeen_4 : decode cX0_isSeen 4 = .ok (.aload_n 0, 1) := by decide +kernel
theorem dX0_isSeen_5 : decode cX0_isSeen 5 = .ok (.invokevirtual 84, 3) := by decide +kernel
theorem dX0_isSeen_8 : decode cX0_isSeen 8 = .ok (.if_icmp .gt 7, 3) := by decide +kernel
theorem dX0_isSeen_11 : decode cX0_isSeen 11 = .ok (.iconst 1, 1) := by decide +kernel
theorem dX0_isSeen_12 : decode cX0_isSeen 12 = .ok (.goto 4, 3) := by decide +kernel
theorem dX0_isSeen_15 : decode cX0_isSeen 15 = .ok (.iconst 0, 1) := by decide +kernel
theorem dX0_isSeen_16 : decode cX0_isSeen 16 = .ok (.ireturn, 1) := by decide +kernel
theorem dX0_knownVisits_0 : decode cX0_knownVisits 0 = .ok (.aload_n 0, 1) := by decide +kernel
theorem dX0_knownVisits_1 : decode cX0_knownVisits 1 = .ok (.getfield 74, 3) := by decide +kernel
theorem dX0_knownVisits_4 : decode cX0_knownVisits 4 = .ok (.istore_n 1, 1) := by decide +kernel
theorem dX0_knownVisits_5 : decode cX0_knownVisits 5 = .ok (.iload_n 1, 1) := by decide +kernel
theorem dX0_knownVisits_6 : decode cX0_knownVisits 6 = .ok (.ifCond .le 24, 3) := by decide +kernel
theorem dX0_knownVisits_9 : decode cX0_knownVisits 9 = .ok (.aload_n 0, 1) := by decide +kernel
theorem dX0_knownVisits_10 : decode cX0_knownVisits 10 = .ok (.aload_n 0, 1) := by decide +kernel
theorem dX0_knownVisits_11 : decode cX0_knownVisits 11 = .ok (.getfield 25, 3) := by decide +kernel
theorem dX0_knownVisits_14 : decode cX0_knownVisits 14 = .ok (.iload_n 1, 1) := by decide +kernel
theorem dX0_knownVisits_15 : decode cX0_knownVisits 15 = .ok (.iconst 1, 1) := by decide +kernel
theorem dX0_knownVisits_16 : decode cX0_knownVisits 16 = .ok (.isub, 1) := by decide +kernel
theorem dX0_knownVisits_17 : decode cX0_knownVisits 17 = .ok (.aaload, 1) := by decide +kernel
theorem dX0_knownVisits_18 : decode cX0_knownVisits 18 = .ok (.invokevirtual 77, 3) := by decide +kernel
theorem dX0_knownVisits_21 : decode cX0_knownVisits 21 = .ok (.ifCond .ne 9, 3) := by decide +kernel
theorem dX0_knownVisits_24 : decode cX0_knownVisits 24 = .ok (.iinc 1 (-1), 3) := by decide +kernel
theorem dX0_knownVisits_27 : decode cX0_knownVisits 27 = .ok (.goto (-22), 3) := by decide +kernel
theorem dX0_knownVisits_30 : decode cX0_knownVisits 30 = .ok (.iload_n 1, 1) := by decide +kernel
theorem dX0_knownVisits_31 : decode cX0_knownVisits 31 = .ok (.ireturn, 1) := by decide +kernel
theorem dX0_lookFrom_0 : decode cX0_lookFrom 0 = .ok (.aload_n 0, 1) := by decide +kernel
theorem dX0_lookFrom_1 : decode cX0_lookFrom 1 = .ok (.iload_n 1, 1) := by decide +kernel
theorem dX0_lookFrom_2 : decode cX0_lookFrom 2 = .ok (.aload_n 0, 1) := by decide +kernel
theorem dX0_lookFrom_3 : decode cX0_lookFrom 3 = .ok (.getfield 71, 3) := by decide +kernel
theorem dX0_lookFrom_6 : decode cX0_lookFrom 6 = .ok (.if_icmp .ne 7, 3) := by decide +kernel
theorem dX0_lookFrom_9 : decode cX0_lookFrom 9 = .ok (.iconst (-1), 1) := by decide +kernel
theorem dX0_lookFrom_10 : decode cX0_lookFrom 10 = .ok (.goto 4, 3) := by decide +kernel
theorem dX0_lookFrom_13 : decode cX0_lookFrom 13 = .ok (.iload_n 1, 1) := by decide +kernel
theorem dX0_lookFrom_14 : decode cX0_lookFrom 14 = .ok (.putfield 48, 3) := by decide +kernel
theorem dX0_lookFrom_17 : decode cX0_lookFrom 17 = .ok (.iconst 0, 1) := by decide +kernel
theorem dX0_lookFrom_18 : decode cX0_lookFrom 18 = .ok (.istore_n 2, 1) := by decide +kernel
theorem dX0_lookFrom_19 : decode cX0_lookFrom 19 = .ok (.iload_n 2, 1) := by decide +kernel
theorem dX0_lookFrom_20 : decode cX0_lookFrom 20 = .ok (.aload_n 0, 1) := by decide +kernel
theorem dX0_lookFrom_21 : decode cX0_lookFrom 21 = .ok (.getfield 74, 3) := by decide +kernel
theorem dX0_lookFrom_24 : decode cX0_lookFrom 24 = .ok (.if_icmp .ge 27, 3) := by decide +kernel
theorem dX0_lookFrom_27 : decode cX0_lookFrom 27 = .ok (.aload_n 0, 1) := by decide +kernel
theorem dX0_lookFrom_28 : decode cX0_lookFrom 28 = .ok (.getfield 25, 3) := by decide +kernel
theorem dX0_lookFrom_31 : decode cX0_lookFrom 31 = .ok (.iload_n 2, 1) := by decide +kernel
theorem dX0_lookFrom_32 : decode cX0_lookFrom 32 = .ok (.aaload, 1) := by decide +kernel
theorem dX0_lookFrom_33 : decode cX0_lookFrom 33 = .ok (.aload_n 0, 1) := by decide +kernel
theorem dX0_lookFrom_34 : decode cX0_lookFrom 34 = .ok (.getfield 25, 3) := by decide +kernel
theorem dX0_lookFrom_37 : decode cX0_lookFrom 37 = .ok (.iload_n 2, 1) := by decide +kernel
theorem dX0_lookFrom_38 : decode cX0_lookFrom 38 = .ok (.aaload, 1) := by decide +kernel
theorem dX0_lookFrom_39 : decode cX0_lookFrom 39 = .ok (.getfield 88, 3) := by decide +kernel
theorem dX0_lookFrom_42 : decode cX0_lookFrom 42 = .ok (.putfield 91, 3) := by decide +kernel
theorem dX0_lookFrom_45 : decode cX0_lookFrom 45 = .ok (.iinc 2 1, 3) := by decide +kernel
theorem dX0_lookFrom_48 : decode cX0_lookFrom 48 = .ok (.goto (-29), 3) := by decide +kernel
theorem dX0_lookFrom_51 : decode cX0_lookFrom 51 = .ok (.iconst 0, 1) := by decide +kernel
theorem dX0_lookFrom_52 : decode cX0_lookFrom 52 = .ok (.istore_n 2, 1) := by decide +kernel
theorem dX0_lookFrom_53 : decode cX0_lookFrom 53 = .ok (.iload_n 2, 1) := by decide +kernel
theorem dX0_lookFrom_54 : decode cX0_lookFrom 54 = .ok (.aload_n 0, 1) := by decide +kernel
theorem dX0_lookFrom_55 : decode cX0_lookFrom 55 = .ok (.getfield 94, 3) := by decide +kernel
theorem dX0_lookFrom_58 : decode cX0_lookFrom 58 = .ok (.if_icmp .ge 14, 3) := by decide +kernel
theorem dX0_lookFrom_61 : decode cX0_lookFrom 61 = .ok (.aload_n 0, 1) := by decide +kernel
theorem dX0_lookFrom_62 : decode cX0_lookFrom 62 = .ok (.iload_n 2, 1) := by decide +kernel
theorem dX0_lookFrom_63 : decode cX0_lookFrom 63 = .ok (.invokevirtual 97, 3) := by decide +kernel
theorem dX0_lookFrom_66 : decode cX0_lookFrom 66 = .ok (.iinc 2 1, 3) := by decide +kernel
theorem dX0_lookFrom_69 : decode cX0_lookFrom 69 = .ok (.goto (-16), 3) := by decide +kernel
theorem dX0_lookFrom_72 : decode cX0_lookFrom 72 = .ok (.aload_n 0, 1) := by decide +kernel
theorem dX0_lookFrom_73 : decode cX0_lookFrom 73 = .ok (.dup, 1) := by decide +kernel
theorem dX0_lookFrom_74 : decode cX0_lookFrom 74 = .ok (.getfield 101, 3) := by decide +kernel
theorem dX0_lookFrom_77 : decode cX0_lookFrom 77 = .ok (.iconst 1, 1) := by decide +kernel
theorem dX0_lookFrom_78 : decode cX0_lookFrom 78 = .ok (.iadd, 1) := by decide +kernel
theorem dX0_lookFrom_79 : decode cX0_lookFrom 79 = .ok (.putfield 101, 3) := by decide +kernel
theorem dX0_lookFrom_82 : decode cX0_lookFrom 82 = .ok (.return_, 1) := by decide +kernel
theorem dX0_walkAt_0 : decode cX0_walkAt 0 = .ok (.aload_n 0, 1) := by decide +kernel
theorem dX0_walkAt_1 : decode cX0_walkAt 1 = .ok (.iload_n 1, 1) := by decide +kernel
theorem dX0_walkAt_2 : decode cX0_walkAt 2 = .ok (.putfield 52, 3) := by decide +kernel
theorem dX0_walkAt_5 : decode cX0_walkAt 5 = .ok (.aload_n 0, 1) := by decide +kernel
theorem dX0_walkAt_6 : decode cX0_walkAt 6 = .ok (.dup, 1) := by decide +kernel
theorem dX0_walkAt_7 : decode cX0_walkAt 7 = .ok (.getfield 101, 3) := by decide +kernel
theorem dX0_walkAt_10 : decode cX0_walkAt 10 = .ok (.iconst 1, 1) := by decide +kernel
theorem dX0_walkAt_11 : decode cX0_walkAt 11 = .ok (.iadd, 1) := by decide +kernel
theorem dX0_walkAt_12 : decode cX0_walkAt 12 = .ok (.putfield 101, 3) := by decide +kernel
theorem dX0_walkAt_15 : decode cX0_walkAt 15 = .ok (.return_, 1) := by decide +kernel
theorem dX0_turnIfSeen_0 : decode cX0_turnIfSeen 0 = .ok (.aload_n 0, 1) := by decide +kernel
theorem dX0_turnIfSeen_1 : decode cX0_turnIfSeen 1 = .ok (.getfield 45, 3) := by decide +kernel
theorem dX0_turnIfSeen_4 : decode cX0_turnIfSeen 4 = .ok (.iload_n 1, 1) := by decide +kernel
theorem dX0_turnIfSeen_5 : decode cX0_turnIfSeen 5 = .ok (.iaload, 1) := by decide +kernel
theorem dX0_turnIfSeen_6 : decode cX0_turnIfSeen 6 = .ok (.aload_n 0, 1) := by decide +kernel
theorem dX0_turnIfSeen_7 : decode cX0_turnIfSeen 7 = .ok (.invokevirtual 84, 3) := by decide +kernel
theorem dX0_turnIfSeen_10 : decode cX0_turnIfSeen 10 = .ok (.if_icmp .gt 30, 3) := by decide +kernel
theorem dX0_turnIfSeen_13 : decode cX0_turnIfSeen 13 = .ok (.aload_n 0, 1) := by decide +kernel
theorem dX0_turnIfSeen_14 : decode cX0_turnIfSeen 14 = .ok (.getfield 25, 3) := by decide +kernel
theorem dX0_turnIfSeen_17 : decode cX0_turnIfSeen 17 = .ok (.aload_n 0, 1) := by decide +kernel
theorem dX0_turnIfSeen_18 : decode cX0_turnIfSeen 18 = .ok (.getfield 38, 3) := by decide +kernel
theorem dX0_turnIfSeen_21 : decode cX0_turnIfSeen 21 = .ok (.iload_n 1, 1) := by decide +kernel
theorem dX0_turnIfSeen_22 : decode cX0_turnIfSeen 22 = .ok (.iaload, 1) := by decide +kernel
theorem dX0_turnIfSeen_23 : decode cX0_turnIfSeen 23 = .ok (.aaload, 1) := by decide +kernel
theorem dX0_turnIfSeen_24 : decode cX0_turnIfSeen 24 = .ok (.dup, 1) := by decide +kernel
theorem dX0_turnIfSeen_25 : decode cX0_turnIfSeen 25 = .ok (.getfield 91, 3) := by decide +kernel
theorem dX0_turnIfSeen_28 : decode cX0_turnIfSeen 28 = .ok (.iconst 1, 1) := by decide +kernel
theorem dX0_turnIfSeen_29 : decode cX0_turnIfSeen 29 = .ok (.aload_n 0, 1) := by decide +kernel
theorem dX0_turnIfSeen_30 : decode cX0_turnIfSeen 30 = .ok (.getfield 42, 3) := by decide +kernel
theorem dX0_turnIfSeen_33 : decode cX0_turnIfSeen 33 = .ok (.iload_n 1, 1) := by decide +kernel
theorem dX0_turnIfSeen_34 : decode cX0_turnIfSeen 34 = .ok (.iaload, 1) := by decide +kernel
theorem dX0_turnIfSeen_35 : decode cX0_turnIfSeen 35 = .ok (.ishl, 1) := by decide +kernel
theorem dX0_turnIfSeen_36 : decode cX0_turnIfSeen 36 = .ok (.ixor, 1) := by decide +kernel
theorem dX0_turnIfSeen_37 : decode cX0_turnIfSeen 37 = .ok (.putfield 91, 3) := by decide +kernel
theorem dX0_turnIfSeen_40 : decode cX0_turnIfSeen 40 = .ok (.return_, 1) := by decide +kernel
theorem dX0_toldOf_0 : decode cX0_toldOf 0 = .ok (.iconst 0, 1) := by decide +kernel
theorem dX0_toldOf_1 : decode cX0_toldOf 1 = .ok (.istore_n 3, 1) := by decide +kernel
theorem dX0_toldOf_2 : decode cX0_toldOf 2 = .ok (.iconst 0, 1) := by decide +kernel
theorem dX0_toldOf_3 : decode cX0_toldOf 3 = .ok (.istore 4, 2) := by decide +kernel
theorem dX0_toldOf_5 : decode cX0_toldOf 5 = .ok (.iload 4, 2) := by decide +kernel
theorem dX0_toldOf_7 : decode cX0_toldOf 7 = .ok (.aload_n 0, 1) := by decide +kernel
theorem dX0_toldOf_8 : decode cX0_toldOf 8 = .ok (.getfield 74, 3) := by decide +kernel
theorem dX0_toldOf_11 : decode cX0_toldOf 11 = .ok (.if_icmp .ge 40, 3) := by decide +kernel
theorem dX0_toldOf_14 : decode cX0_toldOf 14 = .ok (.aload_n 0, 1) := by decide +kernel
theorem dX0_toldOf_15 : decode cX0_toldOf 15 = .ok (.getfield 25, 3) := by decide +kernel
theorem dX0_toldOf_18 : decode cX0_toldOf 18 = .ok (.iload 4, 2) := by decide +kernel
theorem dX0_toldOf_20 : decode cX0_toldOf 20 = .ok (.aaload, 1) := by decide +kernel
theorem dX0_toldOf_21 : decode cX0_toldOf 21 = .ok (.getfield 104, 3) := by decide +kernel
theorem dX0_toldOf_24 : decode cX0_toldOf 24 = .ok (.iload_n 1, 1) := by decide +kernel
theorem dX0_toldOf_25 : decode cX0_toldOf 25 = .ok (.if_icmp .ne 20, 3) := by decide +kernel
theorem dX0_toldOf_28 : decode cX0_toldOf 28 = .ok (.aload_n 0, 1) := by decide +kernel
theorem dX0_toldOf_29 : decode cX0_toldOf 29 = .ok (.getfield 25, 3) := by decide +kernel
theorem dX0_toldOf_32 : decode cX0_toldOf 32 = .ok (.iload 4, 2) := by decide +kernel
theorem dX0_toldOf_34 : decode cX0_toldOf 34 = .ok (.aaload, 1) := by decide +kernel
theorem dX0_toldOf_35 : decode cX0_toldOf 35 = .ok (.getfield 107, 3) := by decide +kernel
theorem dX0_toldOf_38 : decode cX0_toldOf 38 = .ok (.iload_n 2, 1) := by decide +kernel
theorem dX0_toldOf_39 : decode cX0_toldOf 39 = .ok (.if_icmp .ne 6, 3) := by decide +kernel
theorem dX0_toldOf_42 : decode cX0_toldOf 42 = .ok (.iinc 3 1, 3) := by decide +kernel
theorem dX0_toldOf_45 : decode cX0_toldOf 45 = .ok (.iinc 4 1, 3) := by decide +kernel
theorem dX0_toldOf_48 : decode cX0_toldOf 48 = .ok (.goto (-43), 3) := by decide +kernel
theorem dX0_toldOf_51 : decode cX0_toldOf 51 = .ok (.iload_n 3, 1) := by decide +kernel
theorem dX0_toldOf_52 : decode cX0_toldOf 52 = .ok (.ireturn, 1) := by decide +kernel
theorem dX0_keepVisit_0 : decode cX0_keepVisit 0 = .ok (.aload_n 0, 1) := by decide +kernel
theorem dX0_keepVisit_1 : decode cX0_keepVisit 1 = .ok (.getfield 74, 3) := by decide +kernel
theorem dX0_keepVisit_4 : decode cX0_keepVisit 4 = .ok (.istore_n 2, 1) := by decide +kernel
theorem dX0_keepVisit_5 : decode cX0_keepVisit 5 = .ok (.iload_n 2, 1) := by decide +kernel
theorem dX0_keepVisit_6 : decode cX0_keepVisit 6 = .ok (.ifCond .le 38, 3) := by decide +kernel
theorem dX0_keepVisit_9 : decode cX0_keepVisit 9 = .ok (.aload_n 0, 1) := by decide +kernel
theorem dX0_keepVisit_10 : decode cX0_keepVisit 10 = .ok (.getfield 29, 3) := by decide +kernel
theorem dX0_keepVisit_13 : decode cX0_keepVisit 13 = .ok (.iload_n 2, 1) := by decide +kernel
theorem dX0_keepVisit_14 : decode cX0_keepVisit 14 = .ok (.iconst 1, 1) := by decide +kernel
theorem dX0_keepVisit_15 : decode cX0_keepVisit 15 = .ok (.isub, 1) := by decide +kernel
theorem dX0_keepVisit_16 : decode cX0_keepVisit 16 = .ok (.aaload, 1) := by decide +kernel
theorem dX0_keepVisit_17 : decode cX0_keepVisit 17 = .ok (.aload_n 1, 1) := by decide +kernel
theorem dX0_keepVisit_18 : decode cX0_keepVisit 18 = .ok (.invokestatic 110, 3) := by decide +kernel
theorem dX0_keepVisit_21 : decode cX0_keepVisit 21 = .ok (.ifCond .eq 23, 3) := by decide +kernel
theorem dX0_keepVisit_24 : decode cX0_keepVisit 24 = .ok (.aload_n 0, 1) := by decide +kernel
theorem dX0_keepVisit_25 : decode cX0_keepVisit 25 = .ok (.getfield 29, 3) := by decide +kernel
theorem dX0_keepVisit_28 : decode cX0_keepVisit 28 = .ok (.iload_n 2, 1) := by decide +kernel
theorem dX0_keepVisit_29 : decode cX0_keepVisit 29 = .ok (.aload_n 0, 1) := by decide +kernel
theorem dX0_keepVisit_30 : decode cX0_keepVisit 30 = .ok (.getfield 29, 3) := by decide +kernel
theorem dX0_keepVisit_33 : decode cX0_keepVisit 33 = .ok (.iload_n 2, 1) := by decide +kernel
theorem dX0_keepVisit_34 : decode cX0_keepVisit 34 = .ok (.iconst 1, 1) := by decide +kernel
theorem dX0_keepVisit_35 : decode cX0_keepVisit 35 = .ok (.isub, 1) := by decide +kernel
theorem dX0_keepVisit_36 : decode cX0_keepVisit 36 = .ok (.aaload, 1) := by decide +kernel
theorem dX0_keepVisit_37 : decode cX0_keepVisit 37 = .ok (.aastore, 1) := by decide +kernel
theorem dX0_keepVisit_38 : decode cX0_keepVisit 38 = .ok (.iinc 2 (-1), 3) := by decide +kernel
theorem dX0_keepVisit_41 : decode cX0_keepVisit 41 = .ok (.goto (-36), 3) := by decide +kernel
theorem dX0_keepVisit_44 : decode cX0_keepVisit 44 = .ok (.aload_n 0, 1) := by decide +kernel
theorem dX0_keepVisit_45 : decode cX0_keepVisit 45 = .ok (.getfield 29, 3) := by decide +kernel
theorem dX0_keepVisit_48 : decode cX0_keepVisit 48 = .ok (.iload_n 2, 1) := by decide +kernel
theorem dX0_keepVisit_49 : decode cX0_keepVisit 49 = .ok (.aload_n 1, 1) := by decide +kernel
theorem dX0_keepVisit_50 : decode cX0_keepVisit 50 = .ok (.aastore, 1) := by decide +kernel
theorem dX0_keepVisit_51 : decode cX0_keepVisit 51 = .ok (.aload_n 0, 1) := by decide +kernel
theorem dX0_keepVisit_52 : decode cX0_keepVisit 52 = .ok (.getfield 25, 3) := by decide +kernel
theorem dX0_keepVisit_55 : decode cX0_keepVisit 55 = .ok (.aload_n 0, 1) := by decide +kernel
theorem dX0_keepVisit_56 : decode cX0_keepVisit 56 = .ok (.getfield 74, 3) := by decide +kernel
theorem dX0_keepVisit_59 : decode cX0_keepVisit 59 = .ok (.aload_n 1, 1) := by decide +kernel
theorem dX0_keepVisit_60 : decode cX0_keepVisit 60 = .ok (.aastore, 1) := by decide +kernel
theorem dX0_keepVisit_61 : decode cX0_keepVisit 61 = .ok (.aload_n 0, 1) := by decide +kernel
theorem dX0_keepVisit_62 : decode cX0_keepVisit 62 = .ok (.dup, 1) := by decide +kernel
theorem dX0_keepVisit_63 : decode cX0_keepVisit 63 = .ok (.getfield 74, 3) := by decide +kernel
theorem dX0_keepVisit_66 : decode cX0_keepVisit 66 = .ok (.iconst 1, 1) := by decide +kernel
theorem dX0_keepVisit_67 : decode cX0_keepVisit 67 = .ok (.iadd, 1) := by decide +kernel
theorem dX0_keepVisit_68 : decode cX0_keepVisit 68 = .ok (.putfield 74, 3) := by decide +kernel
theorem dX0_keepVisit_71 : decode cX0_keepVisit 71 = .ok (.aload_n 0, 1) := by decide +kernel
theorem dX0_keepVisit_72 : decode cX0_keepVisit 72 = .ok (.dup, 1) := by decide +kernel
theorem dX0_keepVisit_73 : decode cX0_keepVisit 73 = .ok (.getfield 101, 3) := by decide +kernel
theorem dX0_keepVisit_76 : decode cX0_keepVisit 76 = .ok (.iconst 1, 1) := by decide +kernel
theorem dX0_keepVisit_77 : decode cX0_keepVisit 77 = .ok (.iadd, 1) := by decide +kernel
theorem dX0_keepVisit_78 : decode cX0_keepVisit 78 = .ok (.putfield 101, 3) := by decide +kernel
theorem dX0_keepVisit_81 : decode cX0_keepVisit 81 = .ok (.return_, 1) := by decide +kernel
theorem dX0_isLater_0 : decode cX0_isLater 0 = .ok (.aload_n 0, 1) := by decide +kernel
theorem dX0_isLater_1 : decode cX0_isLater 1 = .ok (.getfield 107, 3) := by decide +kernel
theorem dX0_isLater_4 : decode cX0_isLater 4 = .ok (.aload_n 1, 1) := by decide +kernel
theorem dX0_isLater_5 : decode cX0_isLater 5 = .ok (.getfield 107, 3) := by decide +kernel
theorem dX0_isLater_8 : decode cX0_isLater 8 = .ok (.if_icmp .eq 20, 3) := by decide +kernel
theorem dX0_isLater_11 : decode cX0_isLater 11 = .ok (.aload_n 0, 1) := by decide +kernel
theorem dX0_isLater_12 : decode cX0_isLater 12 = .ok (.getfield 107, 3) := by decide +kernel
theorem dX0_isLater_15 : decode cX0_isLater 15 = .ok (.aload_n 1, 1) := by decide +kernel
theorem dX0_isLater_16 : decode cX0_isLater 16 = .ok (.getfield 107, 3) := by decide +kernel
theorem dX0_isLater_19 : decode cX0_isLater 19 = .ok (.if_icmp .le 7, 3) := by decide +kernel
theorem dX0_isLater_22 : decode cX0_isLater 22 = .ok (.iconst 1, 1) := by decide +kernel
theorem dX0_isLater_23 : decode cX0_isLater 23 = .ok (.goto 4, 3) := by decide +kernel
theorem dX0_isLater_26 : decode cX0_isLater 26 = .ok (.iconst 0, 1) := by decide +kernel
theorem dX0_isLater_27 : decode cX0_isLater 27 = .ok (.ireturn, 1) := by decide +kernel
theorem dX0_isLater_28 : decode cX0_isLater 28 = .ok (.aload_n 0, 1) := by decide +kernel
theorem dX0_isLater_29 : decode cX0_isLater 29 = .ok (.getfield 114, 3) := by decide +kernel
theorem dX0_isLater_32 : decode cX0_isLater 32 = .ok (.aload_n 1, 1) := by decide +kernel
theorem dX0_isLater_33 : decode cX0_isLater 33 = .ok (.getfield 114, 3) := by decide +kernel
theorem dX0_isLater_36 : decode cX0_isLater 36 = .ok (.if_icmp .le 7, 3) := by decide +kernel
theorem dX0_isLater_39 : decode cX0_isLater 39 = .ok (.iconst 1, 1) := by decide +kernel
theorem dX0_isLater_40 : decode cX0_isLater 40 = .ok (.goto 4, 3) := by decide +kernel
theorem dX0_isLater_43 : decode cX0_isLater 43 = .ok (.iconst 0, 1) := by decide +kernel
theorem dX0_isLater_44 : decode cX0_isLater 44 = .ok (.ireturn, 1) := by decide +kernel
theorem dX0_keepAppeal_0 : decode cX0_keepAppeal 0 = .ok (.aload_n 0, 1) := by decide +kernel
theorem dX0_keepAppeal_1 : decode cX0_keepAppeal 1 = .ok (.getfield 38, 3) := by decide +kernel
theorem dX0_keepAppeal_4 : decode cX0_keepAppeal 4 = .ok (.aload_n 0, 1) := by decide +kernel
theorem dX0_keepAppeal_5 : decode cX0_keepAppeal 5 = .ok (.getfield 94, 3) := by decide +kernel
theorem dX0_keepAppeal_8 : decode cX0_keepAppeal 8 = .ok (.aload_n 1, 1) := by decide +kernel
theorem dX0_keepAppeal_9 : decode cX0_keepAppeal 9 = .ok (.getfield 117, 3) := by decide +kernel
theorem dX0_keepAppeal_12 : decode cX0_keepAppeal 12 = .ok (.iastore, 1) := by decide +kernel
theorem dX0_keepAppeal_13 : decode cX0_keepAppeal 13 = .ok (.aload_n 0, 1) := by decide +kernel
theorem dX0_keepAppeal_14 : decode cX0_keepAppeal 14 = .ok (.getfield 42, 3) := by decide +kernel
theorem dX0_keepAppeal_17 : decode cX0_keepAppeal 17 = .ok (.aload_n 0, 1) := by decide +kernel
theorem dX0_keepAppeal_18 : decode cX0_keepAppeal 18 = .ok (.getfield 94, 3) := by decide +kernel
theorem dX0_keepAppeal_21 : decode cX0_keepAppeal 21 = .ok (.iload_n 2, 1) := by decide +kernel
theorem dX0_keepAppeal_22 : decode cX0_keepAppeal 22 = .ok (.iastore, 1) := by decide +kernel
theorem dX0_keepAppeal_23 : decode cX0_keepAppeal 23 = .ok (.aload_n 0, 1) := by decide +kernel
theorem dX0_keepAppeal_24 : decode cX0_keepAppeal 24 = .ok (.getfield 45, 3) := by decide +kernel
theorem dX0_keepAppeal_27 : decode cX0_keepAppeal 27 = .ok (.aload_n 0, 1) := by decide +kernel
theorem dX0_keepAppeal_28 : decode cX0_keepAppeal 28 = .ok (.getfield 94, 3) := by decide +kernel
theorem dX0_keepAppeal_31 : decode cX0_keepAppeal 31 = .ok (.aload_n 0, 1) := by decide +kernel
theorem dX0_keepAppeal_32 : decode cX0_keepAppeal 32 = .ok (.getfield 71, 3) := by decide +kernel
theorem dX0_keepAppeal_35 : decode cX0_keepAppeal 35 = .ok (.iastore, 1) := by decide +kernel
theorem dX0_keepAppeal_36 : decode cX0_keepAppeal 36 = .ok (.aload_n 0, 1) := by decide +kernel
theorem dX0_keepAppeal_37 : decode cX0_keepAppeal 37 = .ok (.aload_n 0, 1) := by decide +kernel
theorem dX0_keepAppeal_38 : decode cX0_keepAppeal 38 = .ok (.getfield 94, 3) := by decide +kernel
theorem dX0_keepAppeal_41 : decode cX0_keepAppeal 41 = .ok (.invokevirtual 97, 3) := by decide +kernel
theorem dX0_keepAppeal_44 : decode cX0_keepAppeal 44 = .ok (.aload_n 0, 1) := by decide +kernel
theorem dX0_keepAppeal_45 : decode cX0_keepAppeal 45 = .ok (.dup, 1) := by decide +kernel
theorem dX0_keepAppeal_46 : decode cX0_keepAppeal 46 = .ok (.getfield 94, 3) := by decide +kernel
theorem dX0_keepAppeal_49 : decode cX0_keepAppeal 49 = .ok (.iconst 1, 1) := by decide +kernel
theorem dX0_keepAppeal_50 : decode cX0_keepAppeal 50 = .ok (.iadd, 1) := by decide +kernel
theorem dX0_keepAppeal_51 : decode cX0_keepAppeal 51 = .ok (.putfield 94, 3) := by decide +kernel
theorem dX0_keepAppeal_54 : decode cX0_keepAppeal 54 = .ok (.aload_n 0, 1) := by decide +kernel
theorem dX0_keepAppeal_55 : decode cX0_keepAppeal 55 = .ok (.dup, 1) := by decide +kernel
theorem dX0_keepAppeal_56 : decode cX0_keepAppeal 56 = .ok (.getfield 101, 3) := by decide +kernel
theorem dX0_keepAppeal_59 : decode cX0_keepAppeal 59 = .ok (.iconst 1, 1) := by decide +kernel
theorem dX0_keepAppeal_60 : decode cX0_keepAppeal 60 = .ok (.iadd, 1) := by decide +kernel
theorem dX0_keepAppeal_61 : decode cX0_keepAppeal 61 = .ok (.putfield 101, 3) := by decide +kernel
theorem dX0_keepAppeal_64 : decode cX0_keepAppeal 64 = .ok (.return_, 1) := by decide +kernel
theorem dX0_keepBrief_0 : decode cX0_keepBrief 0 = .ok (.aload_n 0, 1) := by decide +kernel
theorem dX0_keepBrief_1 : decode cX0_keepBrief 1 = .ok (.getfield 34, 3) := by decide +kernel
theorem dX0_keepBrief_4 : decode cX0_keepBrief 4 = .ok (.aload_n 0, 1) := by decide +kernel
theorem dX0_keepBrief_5 : decode cX0_keepBrief 5 = .ok (.getfield 120, 3) := by decide +kernel
theorem dX0_keepBrief_8 : decode cX0_keepBrief 8 = .ok (.aload_n 1, 1) := by decide +kernel
theorem dX0_keepBrief_9 : decode cX0_keepBrief 9 = .ok (.aastore, 1) := by decide +kernel
theorem dX0_keepBrief_10 : decode cX0_keepBrief 10 = .ok (.aload_n 0, 1) := by decide +kernel
theorem dX0_keepBrief_11 : decode cX0_keepBrief 11 = .ok (.dup, 1) := by decide +kernel
theorem dX0_keepBrief_12 : decode cX0_keepBrief 12 = .ok (.getfield 120, 3) := by decide +kernel
theorem dX0_keepBrief_15 : decode cX0_keepBrief 15 = .ok (.iconst 1, 1) := by decide +kernel
theorem dX0_keepBrief_16 : decode cX0_keepBrief 16 = .ok (.iadd, 1) := by decide +kernel
theorem dX0_keepBrief_17 : decode cX0_keepBrief 17 = .ok (.putfield 120, 3) := by decide +kernel
theorem dX0_keepBrief_20 : decode cX0_keepBrief 20 = .ok (.aload_n 0, 1) := by decide +kernel
theorem dX0_keepBrief_21 : decode cX0_keepBrief 21 = .ok (.dup, 1) := by decide +kernel
theorem dX0_keepBrief_22 : decode cX0_keepBrief 22 = .ok (.getfield 101, 3) := by decide +kernel
theorem dX0_keepBrief_25 : decode cX0_keepBrief 25 = .ok (.iconst 1, 1) := by decide +kernel
theorem dX0_keepBrief_26 : decode cX0_keepBrief 26 = .ok (.iadd, 1) := by decide +kernel
theorem dX0_keepBrief_27 : decode cX0_keepBrief 27 = .ok (.putfield 101, 3) := by decide +kernel
theorem dX0_keepBrief_30 : decode cX0_keepBrief 30 = .ok (.return_, 1) := by decide +kernel
theorem dX0_briefFor_0 : decode cX0_briefFor 0 = .ok (.aload_n 0, 1) := by decide +kernel
theorem dX0_briefFor_1 : decode cX0_briefFor 1 = .ok (.getfield 11, 3) := by decide +kernel
theorem dX0_briefFor_4 : decode cX0_briefFor 4 = .ok (.aload_n 1, 1) := by decide +kernel
theorem dX0_briefFor_5 : decode cX0_briefFor 5 = .ok (.getfield 123, 3) := by decide +kernel
theorem dX0_briefFor_8 : decode cX0_briefFor 8 = .ok (.aaload, 1) := by decide +kernel
theorem dX0_briefFor_9 : decode cX0_briefFor 9 = .ok (.getfield 126, 3) := by decide +kernel
theorem dX0_briefFor_12 : decode cX0_briefFor 12 = .ok (.istore_n 2, 1) := by decide +kernel
theorem dX0_briefFor_13 : decode cX0_briefFor 13 = .ok (.iconst (-1), 1) := by decide +kernel
theorem dX0_briefFor_14 : decode cX0_briefFor 14 = .ok (.istore_n 3, 1) := by decide +kernel
theorem dX0_briefFor_15 : decode cX0_briefFor 15 = .ok (.iconst 0, 1) := by decide +kernel
theorem dX0_briefFor_16 : decode cX0_briefFor 16 = .ok (.istore 4, 2) := by decide +kernel
theorem dX0_briefFor_18 : decode cX0_briefFor 18 = .ok (.iload 4, 2) := by decide +kernel
theorem dX0_briefFor_20 : decode cX0_briefFor 20 = .ok (.aload_n 0, 1) := by decide +kernel
theorem dX0_briefFor_21 : decode cX0_briefFor 21 = .ok (.getfield 120, 3) := by decide +kernel
theorem dX0_briefFor_24 : decode cX0_briefFor 24 = .ok (.if_icmp .ge 88, 3) := by decide +kernel
theorem dX0_briefFor_27 : decode cX0_briefFor 27 = .ok (.aload_n 0, 1) := by decide +kernel
theorem dX0_briefFor_28 : decode cX0_briefFor 28 = .ok (.getfield 34, 3) := by decide +kernel
theorem dX0_briefFor_31 : decode cX0_briefFor 31 = .ok (.iload 4, 2) := by decide +kernel
theorem dX0_briefFor_33 : decode cX0_briefFor 33 = .ok (.aaload, 1) := by decide +kernel
theorem dX0_briefFor_34 : decode cX0_briefFor 34 = .ok (.astore 5, 2) := by decide +kernel
theorem dX0_briefFor_36 : decode cX0_briefFor 36 = .ok (.aload 5, 2) := by decide +kernel
theorem dX0_briefFor_38 : decode cX0_briefFor 38 = .ok (.getfield 129, 3) := by decide +kernel
theorem dX0_briefFor_41 : decode cX0_briefFor 41 = .ok (.iload_n 2, 1) := by decide +kernel
theorem dX0_briefFor_42 : decode cX0_briefFor 42 = .ok (.if_icmp .ne 31, 3) := by decide +kernel
theorem dX0_briefFor_45 : decode cX0_briefFor 45 = .ok (.aload 5, 2) := by decide +kernel
theorem dX0_briefFor_47 : decode cX0_briefFor 47 = .ok (.getfield 130, 3) := by decide +kernel
theorem dX0_briefFor_50 : decode cX0_briefFor 50 = .ok (.aload_n 1, 1) := by decide +kernel
theorem dX0_briefFor_51 : decode cX0_briefFor 51 = .ok (.getfield 107, 3) := by decide +kernel
theorem dX0_briefFor_54 : decode cX0_briefFor 54 = .ok (.if_icmp .gt 19, 3) := by decide +kernel
theorem dX0_briefFor_57 : decode cX0_briefFor 57 = .ok (.aload 5, 2) := by decide +kernel
theorem dX0_briefFor_59 : decode cX0_briefFor 59 = .ok (.getfield 133, 3) := by decide +kernel
theorem dX0_briefFor_62 : decode cX0_briefFor 62 = .ok (.aload_n 0, 1) := by decide +kernel
theorem dX0_briefFor_63 : decode cX0_briefFor 63 = .ok (.invokevirtual 84, 3) := by decide +kernel
theorem dX0_briefFor_66 : decode cX0_briefFor 66 = .ok (.if_icmp .gt 7, 3) := by decide +kernel
theorem dX0_briefFor_69 : decode cX0_briefFor 69 = .ok (.iconst 1, 1) := by decide +kernel
theorem dX0_briefFor_70 : decode cX0_briefFor 70 = .ok (.goto 4, 3) := by decide +kernel
theorem dX0_briefFor_73 : decode cX0_briefFor 73 = .ok (.iconst 0, 1) := by decide +kernel
theorem dX0_briefFor_74 : decode cX0_briefFor 74 = .ok (.istore 6, 2) := by decide +kernel
theorem dX0_briefFor_76 : decode cX0_briefFor 76 = .ok (.iload 6, 2) := by decide +kernel
theorem dX0_briefFor_78 : decode cX0_briefFor 78 = .ok (.ifCond .eq 28, 3) := by decide +kernel
theorem dX0_briefFor_81 : decode cX0_briefFor 81 = .ok (.iload_n 3, 1) := by decide +kernel
theorem dX0_briefFor_82 : decode cX0_briefFor 82 = .ok (.iconst (-1), 1) := by decide +kernel
theorem dX0_briefFor_83 : decode cX0_briefFor 83 = .ok (.if_icmp .eq 20, 3) := by decide +kernel
theorem dX0_briefFor_86 : decode cX0_briefFor 86 = .ok (.aload 5, 2) := by decide +kernel
theorem dX0_briefFor_88 : decode cX0_briefFor 88 = .ok (.getfield 130, 3) := by decide +kernel
theorem dX0_briefFor_91 : decode cX0_briefFor 91 = .ok (.aload_n 0, 1) := by decide +kernel
theorem dX0_briefFor_92 : decode cX0_briefFor 92 = .ok (.getfield 34, 3) := by decide +kernel
theorem dX0_briefFor_95 : decode cX0_briefFor 95 = .ok (.iload_n 3, 1) := by decide +kernel
theorem dX0_briefFor_96 : decode cX0_briefFor 96 = .ok (.aaload, 1) := by decide +kernel
theorem dX0_briefFor_97 : decode cX0_briefFor 97 = .ok (.getfield 130, 3) := by decide +kernel
theorem dX0_briefFor_100 : decode cX0_briefFor 100 = .ok (.if_icmp .lt 6, 3) := by decide +kernel
theorem dX0_briefFor_103 : decode cX0_briefFor 103 = .ok (.iload 4, 2) := by decide +kernel
theorem dX0_briefFor_105 : decode cX0_briefFor 105 = .ok (.istore_n 3, 1) := by decide +kernel
theorem dX0_briefFor_106 : decode cX0_briefFor 106 = .ok (.iinc 4 1, 3) := by decide +kernel
theorem dX0_briefFor_109 : decode cX0_briefFor 109 = .ok (.goto (-91), 3) := by decide +kernel
theorem dX0_briefFor_112 : decode cX0_briefFor 112 = .ok (.iload_n 3, 1) := by decide +kernel
theorem dX0_briefFor_113 : decode cX0_briefFor 113 = .ok (.ireturn, 1) := by decide +kernel
theorem dX0_latestOf_0 : decode cX0_latestOf 0 = .ok (.aload_n 0, 1) := by decide +kernel
theorem dX0_latestOf_1 : decode cX0_latestOf 1 = .ok (.getfield 74, 3) := by decide +kernel
theorem dX0_latestOf_4 : decode cX0_latestOf 4 = .ok (.iconst 1, 1) := by decide +kernel
theorem dX0_latestOf_5 : decode cX0_latestOf 5 = .ok (.isub, 1) := by decide +kernel
theorem dX0_latestOf_6 : decode cX0_latestOf 6 = .ok (.istore_n 2, 1) := by decide +kernel
theorem dX0_latestOf_7 : decode cX0_latestOf 7 = .ok (.iload_n 2, 1) := by decide +kernel
theorem dX0_latestOf_8 : decode cX0_latestOf 8 = .ok (.ifCond .lt 42, 3) := by decide +kernel
theorem dX0_latestOf_11 : decode cX0_latestOf 11 = .ok (.aload_n 0, 1) := by decide +kernel
theorem dX0_latestOf_12 : decode cX0_latestOf 12 = .ok (.getfield 29, 3) := by decide +kernel
theorem dX0_latestOf_15 : decode cX0_latestOf 15 = .ok (.iload_n 2, 1) := by decide +kernel
theorem dX0_latestOf_16 : decode cX0_latestOf 16 = .ok (.aaload, 1) := by decide +kernel
theorem dX0_latestOf_17 : decode cX0_latestOf 17 = .ok (.getfield 123, 3) := by decide +kernel
theorem dX0_latestOf_20 : decode cX0_latestOf 20 = .ok (.iload_n 1, 1) := by decide +kernel
theorem dX0_latestOf_21 : decode cX0_latestOf 21 = .ok (.if_icmp .ne 23, 3) := by decide +kernel
theorem dX0_latestOf_24 : decode cX0_latestOf 24 = .ok (.aload_n 0, 1) := by decide +kernel
theorem dX0_latestOf_25 : decode cX0_latestOf 25 = .ok (.aload_n 0, 1) := by decide +kernel
theorem dX0_latestOf_26 : decode cX0_latestOf 26 = .ok (.getfield 29, 3) := by decide +kernel
theorem dX0_latestOf_29 : decode cX0_latestOf 29 = .ok (.iload_n 2, 1) := by decide +kernel
theorem dX0_latestOf_30 : decode cX0_latestOf 30 = .ok (.aaload, 1) := by decide +kernel
theorem dX0_latestOf_31 : decode cX0_latestOf 31 = .ok (.invokevirtual 77, 3) := by decide +kernel
theorem dX0_latestOf_34 : decode cX0_latestOf 34 = .ok (.ifCond .eq 10, 3) := by decide +kernel
theorem dX0_latestOf_37 : decode cX0_latestOf 37 = .ok (.aload_n 0, 1) := by decide +kernel
theorem dX0_latestOf_38 : decode cX0_latestOf 38 = .ok (.getfield 29, 3) := by decide +kernel
theorem dX0_latestOf_41 : decode cX0_latestOf 41 = .ok (.iload_n 2, 1) := by decide +kernel
theorem dX0_latestOf_42 : decode cX0_latestOf 42 = .ok (.aaload, 1) := by decide +kernel
theorem dX0_latestOf_43 : decode cX0_latestOf 43 = .ok (.areturn, 1) := by decide +kernel
theorem dX0_latestOf_44 : decode cX0_latestOf 44 = .ok (.iinc 2 (-1), 3) := by decide +kernel
theorem dX0_latestOf_47 : decode cX0_latestOf 47 = .ok (.goto (-40), 3) := by decide +kernel
theorem dX0_latestOf_50 : decode cX0_latestOf 50 = .ok (.aconst_null, 1) := by decide +kernel
theorem dX0_latestOf_51 : decode cX0_latestOf 51 = .ok (.areturn, 1) := by decide +kernel
theorem dX0_wayFromHome_0 : decode cX0_wayFromHome 0 = .ok (.aload_n 0, 1) := by decide +kernel
theorem dX0_wayFromHome_1 : decode cX0_wayFromHome 1 = .ok (.getfield 19, 3) := by decide +kernel
theorem dX0_wayFromHome_4 : decode cX0_wayFromHome 4 = .ok (.iload_n 1, 1) := by decide +kernel
theorem dX0_wayFromHome_5 : decode cX0_wayFromHome 5 = .ok (.aaload, 1) := by decide +kernel
theorem dX0_wayFromHome_6 : decode cX0_wayFromHome 6 = .ok (.aload_n 0, 1) := by decide +kernel
theorem dX0_wayFromHome_7 : decode cX0_wayFromHome 7 = .ok (.getfield 11, 3) := by decide +kernel
theorem dX0_wayFromHome_10 : decode cX0_wayFromHome 10 = .ok (.iload_n 2, 1) := by decide +kernel
theorem dX0_wayFromHome_11 : decode cX0_wayFromHome 11 = .ok (.aaload, 1) := by decide +kernel
theorem dX0_wayFromHome_12 : decode cX0_wayFromHome 12 = .ok (.getfield 134, 3) := by decide +kernel
theorem dX0_wayFromHome_15 : decode cX0_wayFromHome 15 = .ok (.invokevirtual 138, 3) := by decide +kernel
theorem dX0_wayFromHome_18 : decode cX0_wayFromHome 18 = .ok (.ireturn, 1) := by decide +kernel
theorem dX0_mayGo_0 : decode cX0_mayGo 0 = .ok (.aload_n 0, 1) := by decide +kernel
theorem dX0_mayGo_1 : decode cX0_mayGo 1 = .ok (.iload_n 1, 1) := by decide +kernel
theorem dX0_mayGo_2 : decode cX0_mayGo 2 = .ok (.iload_n 2, 1) := by decide +kernel
theorem dX0_mayGo_3 : decode cX0_mayGo 3 = .ok (.invokevirtual 142, 3) := by decide +kernel
theorem dX0_mayGo_6 : decode cX0_mayGo 6 = .ok (.aload_n 0, 1) := by decide +kernel
theorem dX0_mayGo_7 : decode cX0_mayGo 7 = .ok (.getfield 58, 3) := by decide +kernel
theorem dX0_mayGo_10 : decode cX0_mayGo 10 = .ok (.if_icmp .le 5, 3) := by decide +kernel
theorem dX0_mayGo_13 : decode cX0_mayGo 13 = .ok (.iconst 0, 1) := by decide +kernel
theorem dX0_mayGo_14 : decode cX0_mayGo 14 = .ok (.ireturn, 1) := by decide +kernel
theorem dX0_mayGo_15 : decode cX0_mayGo 15 = .ok (.iconst 0, 1) := by decide +kernel
theorem dX0_mayGo_16 : decode cX0_mayGo 16 = .ok (.istore 4, 2) := by decide +kernel
theorem dX0_mayGo_18 : decode cX0_mayGo 18 = .ok (.iload 4, 2) := by decide +kernel
theorem dX0_mayGo_20 : decode cX0_mayGo 20 = .ok (.aload_n 0, 1) := by decide +kernel
theorem dX0_mayGo_21 : decode cX0_mayGo 21 = .ok (.getfield 74, 3) := by decide +kernel
theorem dX0_mayGo_24 : decode cX0_mayGo 24 = .ok (.if_icmp .ge 49, 3) := by decide +kernel
theorem dX0_mayGo_27 : decode cX0_mayGo 27 = .ok (.aload_n 0, 1) := by decide +kernel
theorem dX0_mayGo_28 : decode cX0_mayGo 28 = .ok (.getfield 25, 3) := by decide +kernel
theorem dX0_mayGo_31 : decode cX0_mayGo 31 = .ok (.iload 4, 2) := by decide +kernel
theorem dX0_mayGo_33 : decode cX0_mayGo 33 = .ok (.aaload, 1) := by decide +kernel
theorem dX0_mayGo_34 : decode cX0_mayGo 34 = .ok (.astore 5, 2) := by decide +kernel
theorem dX0_mayGo_36 : decode cX0_mayGo 36 = .ok (.aload 5, 2) := by decide +kernel
theorem dX0_mayGo_38 : decode cX0_mayGo 38 = .ok (.getfield 104, 3) := by decide +kernel
theorem dX0_mayGo_41 : decode cX0_mayGo 41 = .ok (.iload_n 1, 1) := by decide +kernel
theorem dX0_mayGo_42 : decode cX0_mayGo 42 = .ok (.if_icmp .ne 25, 3) := by decide +kernel
theorem dX0_mayGo_45 : decode cX0_mayGo 45 = .ok (.aload_n 0, 1) := by decide +kernel
theorem dX0_mayGo_46 : decode cX0_mayGo 46 = .ok (.aload 5, 2) := by decide +kernel
theorem dX0_mayGo_48 : decode cX0_mayGo 48 = .ok (.invokevirtual 77, 3) := by decide +kernel
theorem dX0_mayGo_51 : decode cX0_mayGo 51 = .ok (.ifCond .eq 16, 3) := by decide +kernel
theorem dX0_mayGo_54 : decode cX0_mayGo 54 = .ok (.aload_n 0, 1) := by decide +kernel
theorem dX0_mayGo_55 : decode cX0_mayGo 55 = .ok (.aload 5, 2) := by decide +kernel
theorem dX0_mayGo_57 : decode cX0_mayGo 57 = .ok (.iload_n 2, 1) := by decide +kernel
theorem dX0_mayGo_58 : decode cX0_mayGo 58 = .ok (.iload_n 3, 1) := by decide +kernel
theorem dX0_mayGo_59 : decode cX0_mayGo 59 = .ok (.invokevirtual 146, 3) := by decide +kernel
theorem dX0_mayGo_62 : decode cX0_mayGo 62 = .ok (.ifCond .eq 5, 3) := by decide +kernel
theorem dX0_mayGo_65 : decode cX0_mayGo 65 = .ok (.iconst 0, 1) := by decide +kernel
theorem dX0_mayGo_66 : decode cX0_mayGo 66 = .ok (.ireturn, 1) := by decide +kernel
theorem dX0_mayGo_67 : decode cX0_mayGo 67 = .ok (.iinc 4 1, 3) := by decide +kernel
theorem dX0_mayGo_70 : decode cX0_mayGo 70 = .ok (.goto (-52), 3) := by decide +kernel
theorem dX0_mayGo_73 : decode cX0_mayGo 73 = .ok (.iconst 1, 1) := by decide +kernel
theorem dX0_mayGo_74 : decode cX0_mayGo 74 = .ok (.ireturn, 1) := by decide +kernel
theorem dX0_isTooNear_0 : decode cX0_isTooNear 0 = .ok (.aload_n 1, 1) := by decide +kernel
theorem dX0_isTooNear_1 : decode cX0_isTooNear 1 = .ok (.getfield 107, 3) := by decide +kernel
theorem dX0_isTooNear_4 : decode cX0_isTooNear 4 = .ok (.iload_n 3, 1) := by decide +kernel
theorem dX0_isTooNear_5 : decode cX0_isTooNear 5 = .ok (.isub, 1) := by decide +kernel
theorem dX0_isTooNear_6 : decode cX0_isTooNear 6 = .ok (.invokestatic 150, 3) := by decide +kernel
theorem dX0_isTooNear_9 : decode cX0_isTooNear 9 = .ok (.istore 4, 2) := by decide +kernel
theorem dX0_isTooNear_11 : decode cX0_isTooNear 11 = .ok (.aload_n 1, 1) := by decide +kernel
theorem dX0_isTooNear_12 : decode cX0_isTooNear 12 = .ok (.getfield 123, 3) := by decide +kernel
theorem dX0_isTooNear_15 : decode cX0_isTooNear 15 = .ok (.iload_n 2, 1) := by decide +kernel
theorem dX0_isTooNear_16 : decode cX0_isTooNear 16 = .ok (.if_icmp .ne 14, 3) := by decide +kernel
theorem dX0_isTooNear_19 : decode cX0_isTooNear 19 = .ok (.iload 4, 2) := by decide +kernel
theorem dX0_isTooNear_21 : decode cX0_isTooNear 21 = .ok (.aload_n 0, 1) := by decide +kernel
theorem dX0_isTooNear_22 : decode cX0_isTooNear 22 = .ok (.getfield 55, 3) := by decide +kernel
theorem dX0_isTooNear_25 : decode cX0_isTooNear 25 = .ok (.if_icmp .ge 5, 3) := by decide +kernel
theorem dX0_isTooNear_28 : decode cX0_isTooNear 28 = .ok (.iconst 1, 1) := by decide +kernel
theorem dX0_isTooNear_29 : decode cX0_isTooNear 29 = .ok (.ireturn, 1) := by decide +kernel
theorem dX0_isTooNear_30 : decode cX0_isTooNear 30 = .ok (.aload_n 0, 1) := by decide +kernel
theorem dX0_isTooNear_31 : decode cX0_isTooNear 31 = .ok (.getfield 11, 3) := by decide +kernel
theorem dX0_isTooNear_34 : decode cX0_isTooNear 34 = .ok (.aload_n 1, 1) := by decide +kernel
theorem dX0_isTooNear_35 : decode cX0_isTooNear 35 = .ok (.getfield 123, 3) := by decide +kernel
theorem dX0_isTooNear_38 : decode cX0_isTooNear 38 = .ok (.aaload, 1) := by decide +kernel
theorem dX0_isTooNear_39 : decode cX0_isTooNear 39 = .ok (.getfield 126, 3) := by decide +kernel
theorem dX0_isTooNear_42 : decode cX0_isTooNear 42 = .ok (.aload_n 0, 1) := by decide +kernel
theorem dX0_isTooNear_43 : decode cX0_isTooNear 43 = .ok (.getfield 11, 3) := by decide +kernel
theorem dX0_isTooNear_46 : decode cX0_isTooNear 46 = .ok (.iload_n 2, 1) := by decide +kernel
theorem dX0_isTooNear_47 : decode cX0_isTooNear 47 = .ok (.aaload, 1) := by decide +kernel
theorem dX0_isTooNear_48 : decode cX0_isTooNear 48 = .ok (.getfield 126, 3) := by decide +kernel
theorem dX0_isTooNear_51 : decode cX0_isTooNear 51 = .ok (.if_icmp .ne 18, 3) := by decide +kernel
theorem dX0_isTooNear_54 : decode cX0_isTooNear 54 = .ok (.iload 4, 2) := by decide +kernel
theorem dX0_isTooNear_56 : decode cX0_isTooNear 56 = .ok (.aload_n 0, 1) := by decide +kernel
theorem dX0_isTooNear_57 : decode cX0_isTooNear 57 = .ok (.getfield 55, 3) := by decide +kernel
theorem dX0_isTooNear_60 : decode cX0_isTooNear 60 = .ok (.iconst 4, 1) := by decide +kernel
theorem dX0_isTooNear_61 : decode cX0_isTooNear 61 = .ok (.idiv, 1) := by decide +kernel
theorem dX0_isTooNear_62 : decode cX0_isTooNear 62 = .ok (.if_icmp .ge 7, 3) := by decide +kernel
theorem dX0_isTooNear_65 : decode cX0_isTooNear 65 = .ok (.iconst 1, 1) := by decide +kernel
theorem dX0_isTooNear_66 : decode cX0_isTooNear 66 = .ok (.goto 4, 3) := by decide +kernel
theorem dX0_isTooNear_69 : decode cX0_isTooNear 69 = .ok (.iconst 0, 1) := by decide +kernel
theorem dX0_isTooNear_70 : decode cX0_isTooNear 70 = .ok (.ireturn, 1) := by decide +kernel
theorem dX1_init_0 : decode cX1_init 0 = .ok (.aload_n 0, 1) := by decide +kernel
theorem dX1_init_1 : decode cX1_init 1 = .ok (.invokespecial 1, 3) := by decide +kernel
theorem dX1_init_4 : decode cX1_init 4 = .ok (.aload_n 0, 1) := by decide +kernel
theorem dX1_init_5 : decode cX1_init 5 = .ok (.iload_n 1, 1) := by decide +kernel
theorem dX1_init_6 : decode cX1_init 6 = .ok (.putfield 7, 3) := by decide +kernel
theorem dX1_init_9 : decode cX1_init 9 = .ok (.aload_n 0, 1) := by decide +kernel
theorem dX1_init_10 : decode cX1_init 10 = .ok (.iload_n 2, 1) := by decide +kernel
theorem dX1_init_11 : decode cX1_init 11 = .ok (.putfield 13, 3) := by decide +kernel
theorem dX1_init_14 : decode cX1_init 14 = .ok (.aload_n 0, 1) := by decide +kernel
theorem dX1_init_15 : decode cX1_init 15 = .ok (.iload_n 3, 1) := by decide +kernel
theorem dX1_init_16 : decode cX1_init 16 = .ok (.putfield 16, 3) := by decide +kernel
theorem dX1_init_19 : decode cX1_init 19 = .ok (.aload_n 0, 1) := by decide +kernel
theorem dX1_init_20 : decode cX1_init 20 = .ok (.aload 4, 2) := by decide +kernel
theorem dX1_init_22 : decode cX1_init 22 = .ok (.putfield 19, 3) := by decide +kernel
theorem dX1_init_25 : decode cX1_init 25 = .ok (.return_, 1) := by decide +kernel
theorem dX2_init_0 : decode cX2_init 0 = .ok (.aload_n 0, 1) := by decide +kernel
theorem dX2_init_1 : decode cX2_init 1 = .ok (.invokespecial 5, 3) := by decide +kernel
theorem dX2_init_4 : decode cX2_init 4 = .ok (.aload_n 0, 1) := by decide +kernel
theorem dX2_init_5 : decode cX2_init 5 = .ok (.sipush 256, 3) := by decide +kernel
theorem dX2_init_8 : decode cX2_init 8 = .ok (.newarray .long, 2) := by decide +kernel
theorem dX2_init_10 : decode cX2_init 10 = .ok (.putfield 11, 3) := by decide +kernel
theorem dX2_init_13 : decode cX2_init 13 = .ok (.aload_n 0, 1) := by decide +kernel
theorem dX2_init_14 : decode cX2_init 14 = .ok (.bipush 8, 2) := by decide +kernel
theorem dX2_init_16 : decode cX2_init 16 = .ok (.newarray .long, 2) := by decide +kernel
theorem dX2_init_18 : decode cX2_init 18 = .ok (.putfield 15, 3) := by decide +kernel
theorem dX2_init_21 : decode cX2_init 21 = .ok (.aload_n 0, 1) := by decide +kernel
theorem dX2_init_22 : decode cX2_init 22 = .ok (.bipush 8, 2) := by decide +kernel
theorem dX2_init_24 : decode cX2_init 24 = .ok (.newarray .int, 2) := by decide +kernel
theorem dX2_init_26 : decode cX2_init 26 = .ok (.putfield 18, 3) := by decide +kernel
theorem dX2_init_29 : decode cX2_init 29 = .ok (.aload_n 0, 1) := by decide +kernel
theorem dX2_init_30 : decode cX2_init 30 = .ok (.aload_n 1, 1) := by decide +kernel
theorem dX2_init_31 : decode cX2_init 31 = .ok (.putfield 22, 3) := by decide +kernel
theorem dX2_init_34 : decode cX2_init 34 = .ok (.return_, 1) := by decide +kernel
theorem dX2_give_0 : decode cX2_give 0 = .ok (.aload_n 0, 1) := by decide +kernel
theorem dX2_give_1 : decode cX2_give 1 = .ok (.iload_n 1, 1) := by decide +kernel
theorem dX2_give_2 : decode cX2_give 2 = .ok (.invokevirtual 26, 3) := by decide +kernel
theorem dX2_give_5 : decode cX2_give 5 = .ok (.aload_n 0, 1) := by decide +kernel
theorem dX2_give_6 : decode cX2_give 6 = .ok (.getfield 11, 3) := by decide +kernel
theorem dX2_give_9 : decode cX2_give 9 = .ok (.ldc2_w 30, 3) := by decide +kernel
theorem dX2_give_12 : decode cX2_give 12 = .ok (.invokestatic 32, 3) := by decide +kernel
theorem dX2_give_15 : decode cX2_give 15 = .ok (.aload_n 0, 1) := by decide +kernel
theorem dX2_give_16 : decode cX2_give 16 = .ok (.getfield 11, 3) := by decide +kernel
theorem dX2_give_19 : decode cX2_give 19 = .ok (.iconst 0, 1) := by decide +kernel
theorem dX2_give_20 : decode cX2_give 20 = .ok (.lconst 0, 1) := by decide +kernel
theorem dX2_give_21 : decode cX2_give 21 = .ok (.lastore, 1) := by decide +kernel
theorem dX2_give_22 : decode cX2_give 22 = .ok (.iconst 0, 1) := by decide +kernel
theorem dX2_give_23 : decode cX2_give 23 = .ok (.istore_n 3, 1) := by decide +kernel
theorem dX2_give_24 : decode cX2_give 24 = .ok (.iload_n 3, 1) := by decide +kernel
theorem dX2_give_25 : decode cX2_give 25 = .ok (.aload_n 0, 1) := by decide +kernel
theorem dX2_give_26 : decode cX2_give 26 = .ok (.getfield 22, 3) := by decide +kernel
theorem dX2_give_29 : decode cX2_give 29 = .ok (.getfield 38, 3) := by decide +kernel
theorem dX2_give_32 : decode cX2_give 32 = .ok (.if_icmp .ge 23, 3) := by decide +kernel
theorem dX2_give_35 : decode cX2_give 35 = .ok (.aload_n 0, 1) := by decide +kernel
theorem dX2_give_36 : decode cX2_give 36 = .ok (.iload_n 3, 1) := by decide +kernel
theorem dX2_give_37 : decode cX2_give 37 = .ok (.iload_n 2, 1) := by decide +kernel
theorem dX2_give_38 : decode cX2_give 38 = .ok (.invokevirtual 44, 3) := by decide +kernel
theorem dX2_give_41 : decode cX2_give 41 = .ok (.aload_n 0, 1) := by decide +kernel
theorem dX2_give_42 : decode cX2_give 42 = .ok (.invokevirtual 48, 3) := by decide +kernel
theorem dX2_give_45 : decode cX2_give 45 = .ok (.aload_n 0, 1) := by decide +kernel
theorem dX2_give_46 : decode cX2_give 46 = .ok (.invokevirtual 48, 3) := by decide +kernel
theorem dX2_give_49 : decode cX2_give 49 = .ok (.iinc 3 1, 3) := by decide +kernel
theorem dX2_give_52 : decode cX2_give 52 = .ok (.goto (-28), 3) := by decide +kernel
theorem dX2_give_55 : decode cX2_give 55 = .ok (.aload_n 0, 1) := by decide +kernel
theorem dX2_give_56 : decode cX2_give 56 = .ok (.getfield 11, 3) := by decide +kernel
theorem dX2_give_59 : decode cX2_give 59 = .ok (.iconst 1, 1) := by decide +kernel
theorem dX2_give_60 : decode cX2_give 60 = .ok (.aload_n 0, 1) := by decide +kernel
theorem dX2_give_61 : decode cX2_give 61 = .ok (.getfield 51, 3) := by decide +kernel
theorem dX2_give_64 : decode cX2_give 64 = .ok (.ishl, 1) := by decide +kernel
theorem dX2_give_65 : decode cX2_give 65 = .ok (.iconst 1, 1) := by decide +kernel
theorem dX2_give_66 : decode cX2_give 66 = .ok (.isub, 1) := by decide +kernel
theorem dX2_give_67 : decode cX2_give 67 = .ok (.laload, 1) := by decide +kernel
theorem dX2_give_68 : decode cX2_give 68 = .ok (.ldc2_w 30, 3) := by decide +kernel
theorem dX2_give_71 : decode cX2_give 71 = .ok (.lcmp, 1) := by decide +kernel
theorem dX2_give_72 : decode cX2_give 72 = .ok (.ifCond .ge 7, 3) := by decide +kernel
theorem dX2_give_75 : decode cX2_give 75 = .ok (.iconst 1, 1) := by decide +kernel
theorem dX2_give_76 : decode cX2_give 76 = .ok (.goto 4, 3) := by decide +kernel
theorem dX2_give_79 : decode cX2_give 79 = .ok (.iconst 0, 1) := by decide +kernel
theorem dX2_give_80 : decode cX2_give 80 = .ok (.ireturn, 1) := by decide +kernel
theorem dX2_wholeWay_0 : decode cX2_wholeWay 0 = .ok (.aload_n 0, 1) := by decide +kernel
theorem dX2_wholeWay_1 : decode cX2_wholeWay 1 = .ok (.getfield 11, 3) := by decide +kernel
theorem dX2_wholeWay_4 : decode cX2_wholeWay 4 = .ok (.iconst 1, 1) := by decide +kernel
theorem dX2_wholeWay_5 : decode cX2_wholeWay 5 = .ok (.aload_n 0, 1) := by decide +kernel
theorem dX2_wholeWay_6 : decode cX2_wholeWay 6 = .ok (.getfield 51, 3) := by decide +kernel
theorem dX2_wholeWay_9 : decode cX2_wholeWay 9 = .ok (.ishl, 1) := by decide +kernel
theorem dX2_wholeWay_10 : decode cX2_wholeWay 10 = .ok (.iconst 1, 1) := by decide +kernel
theorem dX2_wholeWay_11 : decode cX2_wholeWay 11 = .ok (.isub, 1) := by decide +kernel
theorem dX2_wholeWay_12 : decode cX2_wholeWay 12 = .ok (.laload, 1) := by decide +kernel
theorem dX2_wholeWay_13 : decode cX2_wholeWay 13 = .ok (.bipush 24, 2) := by decide +kernel
theorem dX2_wholeWay_15 : decode cX2_wholeWay 15 = .ok (.lshr, 1) := by decide +kernel
theorem dX2_wholeWay_16 : decode cX2_wholeWay 16 = .ok (.l2i, 1) := by decide +kernel
theorem dX2_wholeWay_17 : decode cX2_wholeWay 17 = .ok (.ireturn, 1) := by decide +kernel
theorem dX2_buyerFor_0 : decode cX2_buyerFor 0 = .ok (.iconst 0, 1) := by decide +kernel
theorem dX2_buyerFor_1 : decode cX2_buyerFor 1 = .ok (.istore_n 2, 1) := by decide +kernel
theorem dX2_buyerFor_2 : decode cX2_buyerFor 2 = .ok (.iload_n 2, 1) := by decide +kernel
theorem dX2_buyerFor_3 : decode cX2_buyerFor 3 = .ok (.aload_n 0, 1) := by decide +kernel
theorem dX2_buyerFor_4 : decode cX2_buyerFor 4 = .ok (.getfield 51, 3) := by decide +kernel
theorem dX2_buyerFor_7 : decode cX2_buyerFor 7 = .ok (.if_icmp .ge 42, 3) := by decide +kernel
theorem dX2_buyerFor_10 : decode cX2_buyerFor 10 = .ok (.aload_n 0, 1) := by decide +kernel
theorem dX2_buyerFor_11 : decode cX2_buyerFor 11 = .ok (.getfield 18, 3) := by decide +kernel
theorem dX2_buyerFor_14 : decode cX2_buyerFor 14 = .ok (.iload_n 2, 1) := by decide +kernel
theorem dX2_buyerFor_15 : decode cX2_buyerFor 15 = .ok (.iaload, 1) := by decide +kernel
theorem dX2_buyerFor_16 : decode cX2_buyerFor 16 = .ok (.iload_n 1, 1) := by decide +kernel
theorem dX2_buyerFor_17 : decode cX2_buyerFor 17 = .ok (.if_icmp .ne 26, 3) := by decide +kernel
theorem dX2_buyerFor_20 : decode cX2_buyerFor 20 = .ok (.aload_n 0, 1) := by decide +kernel
theorem dX2_buyerFor_21 : decode cX2_buyerFor 21 = .ok (.getfield 11, 3) := by decide +kernel
theorem dX2_buyerFor_24 : decode cX2_buyerFor 24 = .ok (.iconst 1, 1) := by decide +kernel
theorem dX2_buyerFor_25 : decode cX2_buyerFor 25 = .ok (.aload_n 0, 1) := by decide +kernel
theorem dX2_buyerFor_26 : decode cX2_buyerFor 26 = .ok (.getfield 51, 3) := by decide +kernel
theorem dX2_buyerFor_29 : decode cX2_buyerFor 29 = .ok (.ishl, 1) := by decide +kernel
theorem dX2_buyerFor_30 : decode cX2_buyerFor 30 = .ok (.iconst 1, 1) := by decide +kernel
theorem dX2_buyerFor_31 : decode cX2_buyerFor 31 = .ok (.isub, 1) := by decide +kernel
theorem dX2_buyerFor_32 : decode cX2_buyerFor 32 = .ok (.laload, 1) := by decide +kernel
theorem dX2_buyerFor_33 : decode cX2_buyerFor 33 = .ok (.iload_n 2, 1) := by decide +kernel
theorem dX2_buyerFor_34 : decode cX2_buyerFor 34 = .ok (.invokestatic 54, 3) := by decide +kernel
theorem dX2_buyerFor_37 : decode cX2_buyerFor 37 = .ok (.lshr, 1) := by decide +kernel
theorem dX2_buyerFor_38 : decode cX2_buyerFor 38 = .ok (.l2i, 1) := by decide +kernel
theorem dX2_buyerFor_39 : decode cX2_buyerFor 39 = .ok (.bipush 7, 2) := by decide +kernel
theorem dX2_buyerFor_41 : decode cX2_buyerFor 41 = .ok (.iand, 1) := by decide +kernel
theorem dX2_buyerFor_42 : decode cX2_buyerFor 42 = .ok (.ireturn, 1) := by decide +kernel
theorem dX2_buyerFor_43 : decode cX2_buyerFor 43 = .ok (.iinc 2 1, 3) := by decide +kernel
theorem dX2_buyerFor_46 : decode cX2_buyerFor 46 = .ok (.goto (-44), 3) := by decide +kernel
theorem dX2_buyerFor_49 : decode cX2_buyerFor 49 = .ok (.iconst (-1), 1) := by decide +kernel
theorem dX2_buyerFor_50 : decode cX2_buyerFor 50 = .ok (.ireturn, 1) := by decide +kernel
theorem dX2_listShops_0 : decode cX2_listShops 0 = .ok (.aload_n 0, 1) := by decide +kernel
theorem dX2_listShops_1 : decode cX2_listShops 1 = .ok (.iconst 0, 1) := by decide +kernel
theorem dX2_listShops_2 : decode cX2_listShops 2 = .ok (.putfield 51, 3) := by decide +kernel
theorem dX2_listShops_5 : decode cX2_listShops 5 = .ok (.iconst 0, 1) := by decide +kernel
theorem dX2_listShops_6 : decode cX2_listShops 6 = .ok (.istore_n 2, 1) := by decide +kernel
theorem dX2_listShops_7 : decode cX2_listShops 7 = .ok (.iload_n 2, 1) := by decide +kernel
theorem dX2_listShops_8 : decode cX2_listShops 8 = .ok (.aload_n 0, 1) := by decide +kernel
theorem dX2_listShops_9 : decode cX2_listShops 9 = .ok (.getfield 22, 3) := by decide +kernel
theorem dX2_listShops_12 : decode cX2_listShops 12 = .ok (.getfield 58, 3) := by decide +kernel
theorem dX2_listShops_15 : decode cX2_listShops 15 = .ok (.if_icmp .ge 47, 3) := by decide +kernel
theorem dX2_listShops_18 : decode cX2_listShops 18 = .ok (.iload_n 1, 1) := by decide +kernel
theorem dX2_listShops_19 : decode cX2_listShops 19 = .ok (.iload_n 2, 1) := by decide +kernel
theorem dX2_listShops_20 : decode cX2_listShops 20 = .ok (.ishr, 1) := by decide +kernel
theorem dX2_listShops_21 : decode cX2_listShops 21 = .ok (.iconst 1, 1) := by decide +kernel
theorem dX2_listShops_22 : decode cX2_listShops 22 = .ok (.iand, 1) := by decide +kernel
theorem dX2_listShops_23 : decode cX2_listShops 23 = .ok (.iconst 1, 1) := by decide +kernel
theorem dX2_listShops_24 : decode cX2_listShops 24 = .ok (.if_icmp .ne 32, 3) := by decide +kernel
theorem dX2_listShops_27 : decode cX2_listShops 27 = .ok (.aload_n 0, 1) := by decide +kernel
theorem dX2_listShops_28 : decode cX2_listShops 28 = .ok (.getfield 51, 3) := by decide +kernel
theorem dX2_listShops_31 : decode cX2_listShops 31 = .ok (.bipush 8, 2) := by decide +kernel
theorem dX2_listShops_33 : decode cX2_listShops 33 = .ok (.if_icmp .ge 23, 3) := by decide +kernel
theorem dX2_listShops_36 : decode cX2_listShops 36 = .ok (.aload_n 0, 1) := by decide +kernel
theorem dX2_listShops_37 : decode cX2_listShops 37 = .ok (.getfield 18, 3) := by decide +kernel
theorem dX2_listShops_40 : decode cX2_listShops 40 = .ok (.aload_n 0, 1) := by decide +kernel
theorem dX2_listShops_41 : decode cX2_listShops 41 = .ok (.getfield 51, 3) := by decide +kernel
theorem dX2_listShops_44 : decode cX2_listShops 44 = .ok (.iload_n 2, 1) := by decide +kernel
theorem dX2_listShops_45 : decode cX2_listShops 45 = .ok (.iastore, 1) := by decide +kernel
theorem dX2_listShops_46 : decode cX2_listShops 46 = .ok (.aload_n 0, 1) := by decide +kernel
theorem dX2_listShops_47 : decode cX2_listShops 47 = .ok (.dup, 1) := by decide +kernel
theorem dX2_listShops_48 : decode cX2_listShops 48 = .ok (.getfield 51, 3) := by decide +kernel
theorem dX2_listShops_51 : decode cX2_listShops 51 = .ok (.iconst 1, 1) := by decide +kernel
theorem dX2_listShops_52 : decode cX2_listShops 52 = .ok (.iadd, 1) := by decide +kernel
theorem dX2_listShops_53 : decode cX2_listShops 53 = .ok (.putfield 51, 3) := by decide +kernel
theorem dX2_listShops_56 : decode cX2_listShops 56 = .ok (.iinc 2 1, 3) := by decide +kernel
theorem dX2_listShops_59 : decode cX2_listShops 59 = .ok (.goto (-52), 3) := by decide +kernel
theorem dX2_listShops_62 : decode cX2_listShops 62 = .ok (.return_, 1) := by decide +kernel
theorem dX2_buyerShift_0 : decode cX2_buyerShift 0 = .ok (.iconst 3, 1) := by decide +kernel
theorem dX2_buyerShift_1 : decode cX2_buyerShift 1 = .ok (.bipush 7, 2) := by decide +kernel
theorem dX2_buyerShift_3 : decode cX2_buyerShift 3 = .ok (.iload_n 0, 1) := by decide +kernel
theorem dX2_buyerShift_4 : decode cX2_buyerShift 4 = .ok (.isub, 1) := by decide +kernel
theorem dX2_buyerShift_5 : decode cX2_buyerShift 5 = .ok (.imul, 1) := by decide +kernel
theorem dX2_buyerShift_6 : decode cX2_buyerShift 6 = .ok (.ireturn, 1) := by decide +kernel
theorem dX2_setPrices_0 : decode cX2_setPrices 0 = .ok (.iconst 0, 1) := by decide +kernel
theorem dX2_setPrices_1 : decode cX2_setPrices 1 = .ok (.istore_n 3, 1) := by decide +kernel
theorem dX2_setPrices_2 : decode cX2_setPrices 2 = .ok (.iload_n 3, 1) := by decide +kernel
theorem dX2_setPrices_3 : decode cX2_setPrices 3 = .ok (.aload_n 0, 1) := by decide +kernel
theorem dX2_setPrices_4 : decode cX2_setPrices 4 = .ok (.getfield 51, 3) := by decide +kernel
theorem dX2_setPrices_7 : decode cX2_setPrices 7 = .ok (.if_icmp .ge 72, 3) := by decide +kernel
theorem dX2_setPrices_10 : decode cX2_setPrices 10 = .ok (.aload_n 0, 1) := by decide +kernel
theorem dX2_setPrices_11 : decode cX2_setPrices 11 = .ok (.getfield 15, 3) := by decide +kernel
theorem dX2_setPrices_14 : decode cX2_setPrices 14 = .ok (.iload_n 3, 1) := by decide +kernel
theorem dX2_setPrices_15 : decode cX2_setPrices 15 = .ok (.ldc2_w 30, 3) := by decide +kernel
theorem dX2_setPrices_18 : decode cX2_setPrices 18 = .ok (.lastore, 1) := by decide +kernel
theorem dX2_setPrices_19 : decode cX2_setPrices 19 = .ok (.aload_n 0, 1) := by decide +kernel
theorem dX2_setPrices_20 : decode cX2_setPrices 20 = .ok (.getfield 22, 3) := by decide +kernel
theorem dX2_setPrices_23 : decode cX2_setPrices 23 = .ok (.iload_n 1, 1) := by decide +kernel
theorem dX2_setPrices_24 : decode cX2_setPrices 24 = .ok (.aload_n 0, 1) := by decide +kernel
theorem dX2_setPrices_25 : decode cX2_setPrices 25 = .ok (.getfield 18, 3) := by decide +kernel
theorem dX2_setPrices_28 : decode cX2_setPrices 28 = .ok (.iload_n 3, 1) := by decide +kernel
theorem dX2_setPrices_29 : decode cX2_setPrices 29 = .ok (.iaload, 1) := by decide +kernel
theorem dX2_setPrices_30 : decode cX2_setPrices 30 = .ok (.iload_n 2, 1) := by decide +kernel
theorem dX2_setPrices_31 : decode cX2_setPrices 31 = .ok (.invokevirtual 61, 3) := by decide +kernel
theorem dX2_setPrices_34 : decode cX2_setPrices 34 = .ok (.ifCond .eq 39, 3) := by decide +kernel
theorem dX2_setPrices_37 : decode cX2_setPrices 37 = .ok (.aload_n 0, 1) := by decide +kernel
theorem dX2_setPrices_38 : decode cX2_setPrices 38 = .ok (.getfield 22, 3) := by decide +kernel
theorem dX2_setPrices_41 : decode cX2_setPrices 41 = .ok (.iload_n 1, 1) := by decide +kernel
theorem dX2_setPrices_42 : decode cX2_setPrices 42 = .ok (.aload_n 0, 1) := by decide +kernel
theorem dX2_setPrices_43 : decode cX2_setPrices 43 = .ok (.getfield 18, 3) := by decide +kernel
theorem dX2_setPrices_46 : decode cX2_setPrices 46 = .ok (.iload_n 3, 1) := by decide +kernel
theorem dX2_setPrices_47 : decode cX2_setPrices 47 = .ok (.iaload, 1) := by decide +kernel
theorem dX2_setPrices_48 : decode cX2_setPrices 48 = .ok (.invokevirtual 65, 3) := by decide +kernel
theorem dX2_setPrices_51 : decode cX2_setPrices 51 = .ok (.i2l, 1) := by decide +kernel
theorem dX2_setPrices_52 : decode cX2_setPrices 52 = .ok (.lstore 4, 2) := by decide +kernel
theorem dX2_setPrices_54 : decode cX2_setPrices 54 = .ok (.aload_n 0, 1) := by decide +kernel
theorem dX2_setPrices_55 : decode cX2_setPrices 55 = .ok (.getfield 15, 3) := by decide +kernel
theorem dX2_setPrices_58 : decode cX2_setPrices 58 = .ok (.iload_n 3, 1) := by decide +kernel
theorem dX2_setPrices_59 : decode cX2_setPrices 59 = .ok (.lload 4, 2) := by decide +kernel
theorem dX2_setPrices_61 : decode cX2_setPrices 61 = .ok (.bipush 24, 2) := by decide +kernel
theorem dX2_setPrices_63 : decode cX2_setPrices 63 = .ok (.lshl, 1) := by decide +kernel
theorem dX2_setPrices_64 : decode cX2_setPrices 64 = .ok (.iload_n 1, 1) := by decide +kernel
theorem dX2_setPrices_65 : decode cX2_setPrices 65 = .ok (.i2l, 1) := by decide +kernel
theorem dX2_setPrices_66 : decode cX2_setPrices 66 = .ok (.iload_n 3, 1) := by decide +kernel
theorem dX2_setPrices_67 : decode cX2_setPrices 67 = .ok (.invokestatic 54, 3) := by decide +kernel
theorem dX2_setPrices_70 : decode cX2_setPrices 70 = .ok (.lshl, 1) := by decide +kernel
theorem dX2_setPrices_71 : decode cX2_setPrices 71 = .ok (.ladd, 1) := by decide +kernel
theorem dX2_setPrices_72 : decode cX2_setPrices 72 = .ok (.lastore, 1) := by decide +kernel
theorem dX2_setPrices_73 : decode cX2_setPrices 73 = .ok (.iinc 3 1, 3) := by decide +kernel
theorem dX2_setPrices_76 : decode cX2_setPrices 76 = .ok (.goto (-74), 3) := by decide +kernel
theorem dX2_setPrices_79 : decode cX2_setPrices 79 = .ok (.return_, 1) := by decide +kernel
theorem dX2_sendOnce_0 : decode cX2_sendOnce 0 = .ok (.iconst 1, 1) := by decide +kernel
theorem dX2_sendOnce_1 : decode cX2_sendOnce 1 = .ok (.aload_n 0, 1) := by decide +kernel
theorem dX2_sendOnce_2 : decode cX2_sendOnce 2 = .ok (.getfield 51, 3) := by decide +kernel
theorem dX2_sendOnce_5 : decode cX2_sendOnce 5 = .ok (.ishl, 1) := by decide +kernel
theorem dX2_sendOnce_6 : decode cX2_sendOnce 6 = .ok (.iconst 1, 1) := by decide +kernel
theorem dX2_sendOnce_7 : decode cX2_sendOnce 7 = .ok (.isub, 1) := by decide +kernel
theorem dX2_sendOnce_8 : decode cX2_sendOnce 8 = .ok (.istore_n 1, 1) := by decide +kernel
theorem dX2_sendOnce_9 : decode cX2_sendOnce 9 = .ok (.iload_n 1, 1) := by decide +kernel
theorem dX2_sendOnce_10 : decode cX2_sendOnce 10 = .ok (.ifCond .le 66, 3) := by decide +kernel
theorem dX2_sendOnce_13 : decode cX2_sendOnce 13 = .ok (.iconst 0, 1) := by decide +kernel
theorem dX2_sendOnce_14 : decode cX2_sendOnce 14 = .ok (.istore_n 2, 1) := by decide +kernel
theorem dX2_sendOnce_15 : decode cX2_sendOnce 15 = .ok (.iload_n 2, 1) := by decide +kernel
theorem dX2_sendOnce_16 : decode cX2_sendOnce 16 = .ok (.aload_n 0, 1) := by decide +kernel
theorem dX2_sendOnce_17 : decode cX2_sendOnce 17 = .ok (.getfield 51, 3) := by decide +kernel
theorem dX2_sendOnce_20 : decode cX2_sendOnce 20 = .ok (.if_icmp .ge 50, 3) := by decide +kernel
theorem dX2_sendOnce_23 : decode cX2_sendOnce 23 = .ok (.iload_n 1, 1) := by decide +kernel
theorem dX2_sendOnce_24 : decode cX2_sendOnce 24 = .ok (.iload_n 2, 1) := by decide +kernel
theorem dX2_sendOnce_25 : decode cX2_sendOnce 25 = .ok (.ishr, 1) := by decide +kernel
theorem dX2_sendOnce_26 : decode cX2_sendOnce 26 = .ok (.iconst 1, 1) := by decide +kernel
theorem dX2_sendOnce_27 : decode cX2_sendOnce 27 = .ok (.iand, 1) := by decide +kernel
theorem dX2_sendOnce_28 : decode cX2_sendOnce 28 = .ok (.iconst 1, 1) := by decide +kernel
theorem dX2_sendOnce_29 : decode cX2_sendOnce 29 = .ok (.if_icmp .ne 35, 3) := by decide +kernel
theorem dX2_sendOnce_32 : decode cX2_sendOnce 32 = .ok (.aload_n 0, 1) := by decide +kernel
theorem dX2_sendOnce_33 : decode cX2_sendOnce 33 = .ok (.getfield 11, 3) := by decide +kernel
theorem dX2_sendOnce_36 : decode cX2_sendOnce 36 = .ok (.iload_n 1, 1) := by decide +kernel
theorem dX2_sendOnce_37 : decode cX2_sendOnce 37 = .ok (.aload_n 0, 1) := by decide +kernel
theorem dX2_sendOnce_38 : decode cX2_sendOnce 38 = .ok (.getfield 11, 3) := by decide +kernel
theorem dX2_sendOnce_41 : decode cX2_sendOnce 41 = .ok (.iload_n 1, 1) := by decide +kernel
theorem dX2_sendOnce_42 : decode cX2_sendOnce 42 = .ok (.laload, 1) := by decide +kernel
theorem dX2_sendOnce_43 : decode cX2_sendOnce 43 = .ok (.aload_n 0, 1) := by decide +kernel
theorem dX2_sendOnce_44 : decode cX2_sendOnce 44 = .ok (.getfield 11, 3) := by decide +kernel
theorem dX2_sendOnce_47 : decode cX2_sendOnce 47 = .ok (.iload_n 1, 1) := by decide +kernel
theorem dX2_sendOnce_48 : decode cX2_sendOnce 48 = .ok (.iconst 1, 1) := by decide +kernel
theorem dX2_sendOnce_49 : decode cX2_sendOnce 49 = .ok (.iload_n 2, 1) := by decide +kernel
theorem dX2_sendOnce_50 : decode cX2_sendOnce 50 = .ok (.ishl, 1) := by decide +kernel
theorem dX2_sendOnce_51 : decode cX2_sendOnce 51 = .ok (.ixor, 1) := by decide +kernel
theorem dX2_sendOnce_52 : decode cX2_sendOnce 52 = .ok (.laload, 1) := by decide +kernel
theorem dX2_sendOnce_53 : decode cX2_sendOnce 53 = .ok (.aload_n 0, 1) := by decide +kernel
theorem dX2_sendOnce_54 : decode cX2_sendOnce 54 = .ok (.getfield 15, 3) := by decide +kernel
theorem dX2_sendOnce_57 : decode cX2_sendOnce 57 = .ok (.iload_n 2, 1) := by decide +kernel
theorem dX2_sendOnce_58 : decode cX2_sendOnce 58 = .ok (.laload, 1) := by decide +kernel
theorem dX2_sendOnce_59 : decode cX2_sendOnce 59 = .ok (.ladd, 1) := by decide +kernel
theorem dX2_sendOnce_60 : decode cX2_sendOnce 60 = .ok (.invokestatic 69, 3) := by decide +kernel
theorem dX2_sendOnce_63 : decode cX2_sendOnce 63 = .ok (.lastore, 1) := by decide +kernel
theorem dX2_sendOnce_64 : decode cX2_sendOnce 64 = .ok (.iinc 2 1, 3) := by decide +kernel
theorem dX2_sendOnce_67 : decode cX2_sendOnce 67 = .ok (.goto (-52), 3) := by decide +kernel
theorem dX2_sendOnce_70 : decode cX2_sendOnce 70 = .ok (.iinc 1 (-1), 3) := by decide +kernel
theorem dX2_sendOnce_73 : decode cX2_sendOnce 73 = .ok (.goto (-64), 3) := by decide +kernel
theorem dX2_sendOnce_76 : decode cX2_sendOnce 76 = .ok (.return_, 1) := by decide +kernel
theorem dX3_init_0 : decode cX3_init 0 = .ok (.aload_n 0, 1) := by decide +kernel
theorem dX3_init_1 : decode cX3_init 1 = .ok (.invokespecial 3, 3) := by decide +kernel
theorem dX3_init_4 : decode cX3_init 4 = .ok (.aload_n 0, 1) := by decide +kernel
theorem dX3_init_5 : decode cX3_init 5 = .ok (.bipush 8, 2) := by decide +kernel
theorem dX3_init_7 : decode cX3_init 7 = .ok (.newarray .int, 2) := by decide +kernel
theorem dX3_init_9 : decode cX3_init 9 = .ok (.putfield 9, 3) := by decide +kernel
theorem dX3_init_12 : decode cX3_init 12 = .ok (.aload_n 0, 1) := by decide +kernel
theorem dX3_init_13 : decode cX3_init 13 = .ok (.bipush 8, 2) := by decide +kernel
theorem dX3_init_15 : decode cX3_init 15 = .ok (.newarray .int, 2) := by decide +kernel
theorem dX3_init_17 : decode cX3_init 17 = .ok (.putfield 15, 3) := by decide +kernel
theorem dX3_init_20 : decode cX3_init 20 = .ok (.aload_n 0, 1) := by decide +kernel
theorem dX3_init_21 : decode cX3_init 21 = .ok (.bipush 64, 2) := by decide +kernel
theorem dX3_init_23 : decode cX3_init 23 = .ok (.newarray .int, 2) := by decide +kernel
theorem dX3_init_25 : decode cX3_init 25 = .ok (.putfield 18, 3) := by decide +kernel
theorem dX3_init_28 : decode cX3_init 28 = .ok (.aload_n 0, 1) := by decide +kernel
theorem dX3_init_29 : decode cX3_init 29 = .ok (.bipush 20, 2) := by decide +kernel
theorem dX3_init_31 : decode cX3_init 31 = .ok (.newarray .int, 2) := by decide +kernel
theorem dX3_init_33 : decode cX3_init 33 = .ok (.putfield 21, 3) := by decide +kernel
theorem dX3_init_36 : decode cX3_init 36 = .ok (.aload_n 0, 1) := by decide +kernel
theorem dX3_init_37 : decode cX3_init 37 = .ok (.bipush 20, 2) := by decide +kernel
theorem dX3_init_39 : decode cX3_init 39 = .ok (.newarray .int, 2) := by decide +kernel
theorem dX3_init_41 : decode cX3_init 41 = .ok (.putfield 24, 3) := by decide +kernel
theorem dX3_init_44 : decode cX3_init 44 = .ok (.aload_n 0, 1) := by decide +kernel
theorem dX3_init_45 : decode cX3_init 45 = .ok (.bipush 20, 2) := by decide +kernel
theorem dX3_init_47 : decode cX3_init 47 = .ok (.newarray .int, 2) := by decide +kernel
theorem dX3_init_49 : decode cX3_init 49 = .ok (.putfield 27, 3) := by decide +kernel
theorem dX3_init_52 : decode cX3_init 52 = .ok (.aload_n 0, 1) := by decide +kernel
theorem dX3_init_53 : decode cX3_init 53 = .ok (.bipush 20, 2) := by decide +kernel
theorem dX3_init_55 : decode cX3_init 55 = .ok (.newarray .int, 2) := by decide +kernel
theorem dX3_init_57 : decode cX3_init 57 = .ok (.putfield 30, 3) := by decide +kernel
theorem dX3_init_60 : decode cX3_init 60 = .ok (.aload_n 0, 1) := by decide +kernel
theorem dX3_init_61 : decode cX3_init 61 = .ok (.aload_n 1, 1) := by decide +kernel
theorem dX3_init_62 : decode cX3_init 62 = .ok (.putfield 33, 3) := by decide +kernel
theorem dX3_init_65 : decode cX3_init 65 = .ok (.aload_n 0, 1) := by decide +kernel
theorem dX3_init_66 : decode cX3_init 66 = .ok (.aload_n 2, 1) := by decide +kernel
theorem dX3_init_67 : decode cX3_init 67 = .ok (.putfield 37, 3) := by decide +kernel
theorem dX3_init_70 : decode cX3_init 70 = .ok (.aload_n 0, 1) := by decide +kernel
theorem dX3_init_71 : decode cX3_init 71 = .ok (.aload_n 3, 1) := by decide +kernel
theorem dX3_init_72 : decode cX3_init 72 = .ok (.putfield 41, 3) := by decide +kernel
theorem dX3_init_75 : decode cX3_init 75 = .ok (.return_, 1) := by decide +kernel
theorem dX3_refresh_0 : decode cX3_refresh 0 = .ok (.aload_n 0, 1) := by decide +kernel
theorem dX3_refresh_1 : decode cX3_refresh 1 = .ok (.getfield 45, 3) := by decide +kernel
theorem dX3_refresh_4 : decode cX3_refresh 4 = .ok (.aload_n 0, 1) := by decide +kernel
theorem dX3_refresh_5 : decode cX3_refresh 5 = .ok (.getfield 33, 3) := by decide +kernel
theorem dX3_refresh_8 : decode cX3_refresh 8 = .ok (.getfield 49, 3) := by decide +kernel
theorem dX3_refresh_11 : decode cX3_refresh 11 = .ok (.if_icmp .ne 4, 3) := by decide +kernel
theorem dX3_refresh_14 : decode cX3_refresh 14 = .ok (.return_, 1) := by decide +kernel
theorem dX3_refresh_15 : decode cX3_refresh 15 = .ok (.aload_n 0, 1) := by decide +kernel
theorem dX3_refresh_16 : decode cX3_refresh 16 = .ok (.aload_n 0, 1) := by decide +kernel
theorem dX3_refresh_17 : decode cX3_refresh 17 = .ok (.getfield 33, 3) := by decide +kernel
theorem dX3_refresh_20 : decode cX3_refresh 20 = .ok (.getfield 49, 3) := by decide +kernel
theorem dX3_refresh_23 : decode cX3_refresh 23 = .ok (.putfield 45, 3) := by decide +kernel
theorem dX3_refresh_26 : decode cX3_refresh 26 = .ok (.aload_n 0, 1) := by decide +kernel
theorem dX3_refresh_27 : decode cX3_refresh 27 = .ok (.getfield 37, 3) := by decide +kernel
theorem dX3_refresh_30 : decode cX3_refresh 30 = .ok (.invokevirtual 52, 3) := by decide +kernel
theorem dX3_refresh_33 : decode cX3_refresh 33 = .ok (.aload_n 0, 1) := by decide +kernel
theorem dX3_refresh_34 : decode cX3_refresh 34 = .ok (.getfield 41, 3) := by decide +kernel
theorem dX3_refresh_37 : decode cX3_refresh 37 = .ok (.invokevirtual 57, 3) := by decide +kernel
theorem dX3_refresh_40 : decode cX3_refresh 40 = .ok (.aload_n 0, 1) := by decide +kernel
theorem dX3_refresh_41 : decode cX3_refresh 41 = .ok (.getfield 9, 3) := by decide +kernel
theorem dX3_refresh_44 : decode cX3_refresh 44 = .ok (.iconst 0, 1) := by decide +kernel
theorem dX3_refresh_45 : decode cX3_refresh 45 = .ok (.invokestatic 60, 3) := by decide +kernel
theorem dX3_refresh_48 : decode cX3_refresh 48 = .ok (.aload_n 0, 1) := by decide +kernel
theorem dX3_refresh_49 : decode cX3_refresh 49 = .ok (.getfield 15, 3) := by decide +kernel
theorem dX3_refresh_52 : decode cX3_refresh 52 = .ok (.iconst 0, 1) := by decide +kernel
theorem dX3_refresh_53 : decode cX3_refresh 53 = .ok (.invokestatic 60, 3) := by decide +kernel
theorem dX3_refresh_56 : decode cX3_refresh 56 = .ok (.aload_n 0, 1) := by decide +kernel
theorem dX3_refresh_57 : decode cX3_refresh 57 = .ok (.getfield 18, 3) := by decide +kernel
theorem dX3_refresh_60 : decode cX3_refresh 60 = .ok (.iconst 0, 1) := by decide +kernel
theorem dX3_refresh_61 : decode cX3_refresh 61 = .ok (.invokestatic 60, 3) := by decide +kernel
theorem dX3_refresh_64 : decode cX3_refresh 64 = .ok (.iconst 0, 1) := by decide +kernel
theorem dX3_refresh_65 : decode cX3_refresh 65 = .ok (.istore_n 1, 1) := by decide +kernel
theorem dX3_refresh_66 : decode cX3_refresh 66 = .ok (.iload_n 1, 1) := by decide +kernel
theorem dX3_refresh_67 : decode cX3_refresh 67 = .ok (.aload_n 0, 1) := by decide +kernel
theorem dX3_refresh_68 : decode cX3_refresh 68 = .ok (.getfield 33, 3) := by decide +kernel
theorem dX3_refresh_71 : decode cX3_refresh 71 = .ok (.getfield 66, 3) := by decide +kernel
theorem dX3_refresh_74 : decode cX3_refresh 74 = .ok (.if_icmp .ge 30, 3) := by decide +kernel
theorem dX3_refresh_77 : decode cX3_refresh 77 = .ok (.aload_n 0, 1) := by decide +kernel
theorem dX3_refresh_78 : decode cX3_refresh 78 = .ok (.aload_n 0, 1) := by decide +kernel
theorem dX3_refresh_79 : decode cX3_refresh 79 = .ok (.getfield 33, 3) := by decide +kernel
theorem dX3_refresh_82 : decode cX3_refresh 82 = .ok (.getfield 69, 3) := by decide +kernel
theorem dX3_refresh_85 : decode cX3_refresh 85 = .ok (.iload_n 1, 1) := by decide +kernel
theorem dX3_refresh_86 : decode cX3_refresh 86 = .ok (.aaload, 1) := by decide +kernel
theorem dX3_refresh_87 : decode cX3_refresh 87 = .ok (.invokevirtual 73, 3) := by decide +kernel
theorem dX3_refresh_90 : decode cX3_refresh 90 = .ok (.ifCond .eq 8, 3) := by decide +kernel
theorem dX3_refresh_93 : decode cX3_refresh 93 = .ok (.aload_n 0, 1) := by decide +kernel
theorem dX3_refresh_94 : decode cX3_refresh 94 = .ok (.iload_n 1, 1) := by decide +kernel
theorem dX3_refresh_95 : decode cX3_refresh 95 = .ok (.invokevirtual 77, 3) := by decide +kernel
theorem dX3_refresh_98 : decode cX3_refresh 98 = .ok (.iinc 1 1, 3) := by decide +kernel
theorem dX3_refresh_101 : decode cX3_refresh 101 = .ok (.goto (-35), 3) := by decide +kernel
theorem dX3_refresh_104 : decode cX3_refresh 104 = .ok (.return_, 1) := by decide +kernel
theorem dX3_isTaken_0 : decode cX3_isTaken 0 = .ok (.aload_n 0, 1) := by decide +kernel
theorem dX3_isTaken_1 : decode cX3_isTaken 1 = .ok (.getfield 33, 3) := by decide +kernel
theorem dX3_isTaken_4 : decode cX3_isTaken 4 = .ok (.aload_n 1, 1) := by decide +kernel
theorem dX3_isTaken_5 : decode cX3_isTaken 5 = .ok (.invokevirtual 81, 3) := by decide +kernel
theorem dX3_isTaken_8 : decode cX3_isTaken 8 = .ok (.ifCond .eq 14, 3) := by decide +kernel
theorem dX3_isTaken_11 : decode cX3_isTaken 11 = .ok (.aload_n 1, 1) := by decide +kernel
theorem dX3_isTaken_12 : decode cX3_isTaken 12 = .ok (.invokevirtual 84, 3) := by decide +kernel
theorem dX3_isTaken_15 : decode cX3_isTaken 15 = .ok (.ifCond .eq 7, 3) := by decide +kernel
theorem dX3_isTaken_18 : decode cX3_isTaken 18 = .ok (.iconst 1, 1) := by decide +kernel
theorem dX3_isTaken_19 : decode cX3_isTaken 19 = .ok (.goto 4, 3) := by decide +kernel
theorem dX3_isTaken_22 : decode cX3_isTaken 22 = .ok (.iconst 0, 1) := by decide +kernel
theorem dX3_isTaken_23 : decode cX3_isTaken 23 = .ok (.ireturn, 1) := by decide +kernel
theorem dX3_meetLater_0 : decode cX3_meetLater 0 = .ok (.aload_n 0, 1) := by decide +kernel
theorem dX3_meetLater_1 : decode cX3_meetLater 1 = .ok (.getfield 33, 3) := by decide +kernel
theorem dX3_meetLater_4 : decode cX3_meetLater 4 = .ok (.getfield 69, 3) := by decide +kernel
theorem dX3_meetLater_7 : decode cX3_meetLater 7 = .ok (.iload_n 1, 1) := by decide +kernel
theorem dX3_meetLater_8 : decode cX3_meetLater 8 = .ok (.aaload, 1) := by decide +kernel
theorem dX3_meetLater_9 : decode cX3_meetLater 9 = .ok (.astore_n 2, 1) := by decide +kernel
theorem dX3_meetLater_10 : decode cX3_meetLater 10 = .ok (.aload_n 2, 1) := by decide +kernel
theorem dX3_meetLater_11 : decode cX3_meetLater 11 = .ok (.invokevirtual 90, 3) := by decide +kernel
theorem dX3_meetLater_14 : decode cX3_meetLater 14 = .ok (.istore_n 3, 1) := by decide +kernel
theorem dX3_meetLater_15 : decode cX3_meetLater 15 = .ok (.iload_n 1, 1) := by decide +kernel
theorem dX3_meetLater_16 : decode cX3_meetLater 16 = .ok (.iconst 1, 1) := by decide +kernel
theorem dX3_meetLater_17 : decode cX3_meetLater 17 = .ok (.iadd, 1) := by decide +kernel
theorem dX3_meetLater_18 : decode cX3_meetLater 18 = .ok (.istore 4, 2) := by decide +kernel
theorem dX3_meetLater_20 : decode cX3_meetLater 20 = .ok (.iload 4, 2) := by decide +kernel
theorem dX3_meetLater_22 : decode cX3_meetLater 22 = .ok (.aload_n 0, 1) := by decide +kernel
theorem dX3_meetLater_23 : decode cX3_meetLater 23 = .ok (.getfield 33, 3) := by decide +kernel
theorem dX3_meetLater_26 : decode cX3_meetLater 26 = .ok (.getfield 66, 3) := by decide +kernel
theorem dX3_meetLater_29 : decode cX3_meetLater 29 = .ok (.if_icmp .ge 85, 3) := by decide +kernel
theorem dX3_meetLater_32 : decode cX3_meetLater 32 = .ok (.aload_n 0, 1) := by decide +kernel
theorem dX3_meetLater_33 : decode cX3_meetLater 33 = .ok (.getfield 33, 3) := by decide +kernel
theorem dX3_meetLater_36 : decode cX3_meetLater 36 = .ok (.getfield 69, 3) := by decide +kernel
theorem dX3_meetLater_39 : decode cX3_meetLater 39 = .ok (.iload 4, 2) := by decide +kernel
theorem dX3_meetLater_41 : decode cX3_meetLater 41 = .ok (.aaload, 1) := by decide +kernel
theorem dX3_meetLater_42 : decode cX3_meetLater 42 = .ok (.invokevirtual 90, 3) := by decide +kernel
theorem dX3_meetLater_45 : decode cX3_meetLater 45 = .ok (.iload_n 3, 1) := by decide +kernel
theorem dX3_meetLater_46 : decode cX3_meetLater 46 = .ok (.if_icmp .ne 68, 3) := by decide +kernel
theorem dX3_meetLater_49 : decode cX3_meetLater 49 = .ok (.aload_n 0, 1) := by decide +kernel
theorem dX3_meetLater_50 : decode cX3_meetLater 50 = .ok (.getfield 33, 3) := by decide +kernel
theorem dX3_meetLater_53 : decode cX3_meetLater 53 = .ok (.getfield 69, 3) := by decide +kernel
theorem dX3_meetLater_56 : decode cX3_meetLater 56 = .ok (.iload 4, 2) := by decide +kernel
theorem dX3_meetLater_58 : decode cX3_meetLater 58 = .ok (.aaload, 1) := by decide +kernel
theorem dX3_meetLater_59 : decode cX3_meetLater 59 = .ok (.astore 5, 2) := by decide +kernel
theorem dX3_meetLater_61 : decode cX3_meetLater 61 = .ok (.aload 5, 2) := by decide +kernel
theorem dX3_meetLater_63 : decode cX3_meetLater 63 = .ok (.getfield 94, 3) := by decide +kernel
theorem dX3_meetLater_66 : decode cX3_meetLater 66 = .ok (.aload_n 2, 1) := by decide +kernel
theorem dX3_meetLater_67 : decode cX3_meetLater 67 = .ok (.getfield 94, 3) := by decide +kernel
theorem dX3_meetLater_70 : decode cX3_meetLater 70 = .ok (.if_icmp .ne 38, 3) := by decide +kernel
theorem dX3_meetLater_73 : decode cX3_meetLater 73 = .ok (.aload 5, 2) := by decide +kernel
theorem dX3_meetLater_75 : decode cX3_meetLater 75 = .ok (.getfield 97, 3) := by decide +kernel
theorem dX3_meetLater_78 : decode cX3_meetLater 78 = .ok (.aload_n 2, 1) := by decide +kernel
theorem dX3_meetLater_79 : decode cX3_meetLater 79 = .ok (.getfield 97, 3) := by decide +kernel
theorem dX3_meetLater_82 : decode cX3_meetLater 82 = .ok (.if_icmp .eq 26, 3) := by decide +kernel
theorem dX3_meetLater_85 : decode cX3_meetLater 85 = .ok (.aload_n 0, 1) := by decide +kernel
theorem dX3_meetLater_86 : decode cX3_meetLater 86 = .ok (.aload 5, 2) := by decide +kernel
theorem dX3_meetLater_88 : decode cX3_meetLater 88 = .ok (.invokevirtual 73, 3) := by decide +kernel
theorem dX3_meetLater_91 : decode cX3_meetLater 91 = .ok (.ifCond .eq 17, 3) := by decide +kernel
theorem dX3_meetLater_94 : decode cX3_meetLater 94 = .ok (.aload_n 0, 1) := by decide +kernel
theorem dX3_meetLater_95 : decode cX3_meetLater 95 = .ok (.aload_n 2, 1) := by decide +kernel
theorem dX3_meetLater_96 : decode cX3_meetLater 96 = .ok (.aload 5, 2) := by decide +kernel
theorem dX3_meetLater_98 : decode cX3_meetLater 98 = .ok (.invokevirtual 100, 3) := by decide +kernel
theorem dX3_meetLater_101 : decode cX3_meetLater 101 = .ok (.aload_n 0, 1) := by decide +kernel
theorem dX3_meetLater_102 : decode cX3_meetLater 102 = .ok (.aload 5, 2) := by decide +kernel
theorem dX3_meetLater_104 : decode cX3_meetLater 104 = .ok (.aload_n 2, 1) := by decide +kernel
theorem dX3_meetLater_105 : decode cX3_meetLater 105 = .ok (.invokevirtual 100, 3) := by decide +kernel
theorem dX3_meetLater_108 : decode cX3_meetLater 108 = .ok (.iinc 4 1, 3) := by decide +kernel
theorem dX3_meetLater_111 : decode cX3_meetLater 111 = .ok (.goto (-91), 3) := by decide +kernel
theorem dX3_meetLater_114 : decode cX3_meetLater 114 = .ok (.return_, 1) := by decide +kernel
theorem dX3_meet_0 : decode cX3_meet 0 = .ok (.aload_n 0, 1) := by decide +kernel
theorem dX3_meet_1 : decode cX3_meet 1 = .ok (.getfield 9, 3) := by decide +kernel
theorem dX3_meet_4 : decode cX3_meet 4 = .ok (.aload_n 1, 1) := by decide +kernel
theorem dX3_meet_5 : decode cX3_meet 5 = .ok (.getfield 97, 3) := by decide +kernel
theorem dX3_meet_8 : decode cX3_meet 8 = .ok (.dup2, 1) := by decide +kernel
theorem dX3_meet_9 : decode cX3_meet 9 = .ok (.iaload, 1) := by decide +kernel
theorem dX3_meet_10 : decode cX3_meet 10 = .ok (.aload_n 1, 1) := by decide +kernel
theorem dX3_meet_11 : decode cX3_meet 11 = .ok (.getfield 104, 3) := by decide +kernel
theorem dX3_meet_14 : decode cX3_meet 14 = .ok (.aload_n 2, 1) := by decide +kernel
theorem dX3_meet_15 : decode cX3_meet 15 = .ok (.getfield 104, 3) := by decide +kernel
theorem dX3_meet_18 : decode cX3_meet 18 = .ok (.isub, 1) := by decide +kernel
theorem dX3_meet_19 : decode cX3_meet 19 = .ok (.iadd, 1) := by decide +kernel
theorem dX3_meet_20 : decode cX3_meet 20 = .ok (.iastore, 1) := by decide +kernel
theorem dX3_meet_21 : decode cX3_meet 21 = .ok (.aload_n 0, 1) := by decide +kernel
theorem dX3_meet_22 : decode cX3_meet 22 = .ok (.getfield 15, 3) := by decide +kernel
theorem dX3_meet_25 : decode cX3_meet 25 = .ok (.aload_n 1, 1) := by decide +kernel
theorem dX3_meet_26 : decode cX3_meet 26 = .ok (.getfield 97, 3) := by decide +kernel
theorem dX3_meet_29 : decode cX3_meet 29 = .ok (.dup2, 1) := by decide +kernel
theorem dX3_meet_30 : decode cX3_meet 30 = .ok (.iaload, 1) := by decide +kernel
theorem dX3_meet_31 : decode cX3_meet 31 = .ok (.iconst 1, 1) := by decide +kernel
theorem dX3_meet_32 : decode cX3_meet 32 = .ok (.iadd, 1) := by decide +kernel
theorem dX3_meet_33 : decode cX3_meet 33 = .ok (.iastore, 1) := by decide +kernel
theorem dX3_meet_34 : decode cX3_meet 34 = .ok (.aload_n 0, 1) := by decide +kernel
theorem dX3_meet_35 : decode cX3_meet 35 = .ok (.getfield 18, 3) := by decide +kernel
theorem dX3_meet_38 : decode cX3_meet 38 = .ok (.aload_n 1, 1) := by decide +kernel
theorem dX3_meet_39 : decode cX3_meet 39 = .ok (.getfield 97, 3) := by decide +kernel
theorem dX3_meet_42 : decode cX3_meet 42 = .ok (.bipush 8, 2) := by decide +kernel
theorem dX3_meet_44 : decode cX3_meet 44 = .ok (.imul, 1) := by decide +kernel
theorem dX3_meet_45 : decode cX3_meet 45 = .ok (.aload_n 2, 1) := by decide +kernel
theorem dX3_meet_46 : decode cX3_meet 46 = .ok (.getfield 97, 3) := by decide +kernel
theorem dX3_meet_49 : decode cX3_meet 49 = .ok (.iadd, 1) := by decide +kernel
theorem dX3_meet_50 : decode cX3_meet 50 = .ok (.dup2, 1) := by decide +kernel
theorem dX3_meet_51 : decode cX3_meet 51 = .ok (.iaload, 1) := by decide +kernel
theorem dX3_meet_52 : decode cX3_meet 52 = .ok (.iconst 1, 1) := by decide +kernel
theorem dX3_meet_53 : decode cX3_meet 53 = .ok (.iadd, 1) := by decide +kernel
theorem dX3_meet_54 : decode cX3_meet 54 = .ok (.iastore, 1) := by decide +kernel
theorem dX3_meet_55 : decode cX3_meet 55 = .ok (.return_, 1) := by decide +kernel
theorem dX3_meetingsOf_0 : decode cX3_meetingsOf 0 = .ok (.aload_n 0, 1) := by decide +kernel
theorem dX3_meetingsOf_1 : decode cX3_meetingsOf 1 = .ok (.getfield 18, 3) := by decide +kernel
theorem dX3_meetingsOf_4 : decode cX3_meetingsOf 4 = .ok (.iload_n 1, 1) := by decide +kernel
theorem dX3_meetingsOf_5 : decode cX3_meetingsOf 5 = .ok (.bipush 8, 2) := by decide +kernel
theorem dX3_meetingsOf_7 : decode cX3_meetingsOf 7 = .ok (.imul, 1) := by decide +kernel
theorem dX3_meetingsOf_8 : decode cX3_meetingsOf 8 = .ok (.iload_n 2, 1) := by decide +kernel
theorem dX3_meetingsOf_9 : decode cX3_meetingsOf 9 = .ok (.iadd, 1) := by decide +kernel
theorem dX3_meetingsOf_10 : decode cX3_meetingsOf 10 = .ok (.iaload, 1) := by decide +kernel
theorem dX3_meetingsOf_11 : decode cX3_meetingsOf 11 = .ok (.ireturn, 1) := by decide +kernel
theorem dX3_hasLean_0 : decode cX3_hasLean 0 = .ok (.aload_n 0, 1) := by decide +kernel
theorem dX3_hasLean_1 : decode cX3_hasLean 1 = .ok (.getfield 15, 3) := by decide +kernel
theorem dX3_hasLean_4 : decode cX3_hasLean 4 = .ok (.iload_n 1, 1) := by decide +kernel
theorem dX3_hasLean_5 : decode cX3_hasLean 5 = .ok (.iaload, 1) := by decide +kernel
theorem dX3_hasLean_6 : decode cX3_hasLean 6 = .ok (.iconst 2, 1) := by decide +kernel
theorem dX3_hasLean_7 : decode cX3_hasLean 7 = .ok (.if_icmp .lt 7, 3) := by decide +kernel
theorem dX3_hasLean_10 : decode cX3_hasLean 10 = .ok (.iconst 1, 1) := by decide +kernel
theorem dX3_hasLean_11 : decode cX3_hasLean 11 = .ok (.goto 4, 3) := by decide +kernel
theorem dX3_hasLean_14 : decode cX3_hasLean 14 = .ok (.iconst 0, 1) := by decide +kernel
theorem dX3_hasLean_15 : decode cX3_hasLean 15 = .ok (.ireturn, 1) := by decide +kernel
theorem dX3_leanOf_0 : decode cX3_leanOf 0 = .ok (.aload_n 0, 1) := by decide +kernel
theorem dX3_leanOf_1 : decode cX3_leanOf 1 = .ok (.getfield 15, 3) := by decide +kernel
theorem dX3_leanOf_4 : decode cX3_leanOf 4 = .ok (.iload_n 1, 1) := by decide +kernel
theorem dX3_leanOf_5 : decode cX3_leanOf 5 = .ok (.iaload, 1) := by decide +kernel
theorem dX3_leanOf_6 : decode cX3_leanOf 6 = .ok (.iconst 2, 1) := by decide +kernel
theorem dX3_leanOf_7 : decode cX3_leanOf 7 = .ok (.if_icmp .lt 19, 3) := by decide +kernel
theorem dX3_leanOf_10 : decode cX3_leanOf 10 = .ok (.aload_n 0, 1) := by decide +kernel
theorem dX3_leanOf_11 : decode cX3_leanOf 11 = .ok (.getfield 9, 3) := by decide +kernel
theorem dX3_leanOf_14 : decode cX3_leanOf 14 = .ok (.iload_n 1, 1) := by decide +kernel
theorem dX3_leanOf_15 : decode cX3_leanOf 15 = .ok (.iaload, 1) := by decide +kernel
theorem dX3_leanOf_16 : decode cX3_leanOf 16 = .ok (.aload_n 0, 1) := by decide +kernel
theorem dX3_leanOf_17 : decode cX3_leanOf 17 = .ok (.getfield 15, 3) := by decide +kernel
theorem dX3_leanOf_20 : decode cX3_leanOf 20 = .ok (.iload_n 1, 1) := by decide +kernel
theorem dX3_leanOf_21 : decode cX3_leanOf 21 = .ok (.iaload, 1) := by decide +kernel
theorem dX3_leanOf_22 : decode cX3_leanOf 22 = .ok (.idiv, 1) := by decide +kernel
theorem dX3_leanOf_23 : decode cX3_leanOf 23 = .ok (.goto 4, 3) := by decide +kernel
theorem dX3_leanOf_26 : decode cX3_leanOf 26 = .ok (.iconst 0, 1) := by decide +kernel
theorem dX3_leanOf_27 : decode cX3_leanOf 27 = .ok (.ireturn, 1) := by decide +kernel
theorem dX3_fairScore_0 : decode cX3_fairScore 0 = .ok (.aload_n 1, 1) := by decide +kernel
theorem dX3_fairScore_1 : decode cX3_fairScore 1 = .ok (.getfield 104, 3) := by decide +kernel
theorem dX3_fairScore_4 : decode cX3_fairScore 4 = .ok (.aload_n 0, 1) := by decide +kernel
theorem dX3_fairScore_5 : decode cX3_fairScore 5 = .ok (.aload_n 1, 1) := by decide +kernel
theorem dX3_fairScore_6 : decode cX3_fairScore 6 = .ok (.getfield 97, 3) := by decide +kernel
theorem dX3_fairScore_9 : decode cX3_fairScore 9 = .ok (.invokevirtual 107, 3) := by decide +kernel
theorem dX3_fairScore_12 : decode cX3_fairScore 12 = .ok (.isub, 1) := by decide +kernel
theorem dX3_fairScore_13 : decode cX3_fairScore 13 = .ok (.ireturn, 1) := by decide +kernel
theorem dX3_addDays_0 : decode cX3_addDays 0 = .ok (.aload_n 0, 1) := by decide +kernel
theorem dX3_addDays_1 : decode cX3_addDays 1 = .ok (.getfield 21, 3) := by decide +kernel
theorem dX3_addDays_4 : decode cX3_addDays 4 = .ok (.iconst 0, 1) := by decide +kernel
theorem dX3_addDays_5 : decode cX3_addDays 5 = .ok (.invokestatic 60, 3) := by decide +kernel
theorem dX3_addDays_8 : decode cX3_addDays 8 = .ok (.aload_n 0, 1) := by decide +kernel
theorem dX3_addDays_9 : decode cX3_addDays 9 = .ok (.getfield 24, 3) := by decide +kernel
theorem dX3_addDays_12 : decode cX3_addDays 12 = .ok (.iconst 0, 1) := by decide +kernel
theorem dX3_addDays_13 : decode cX3_addDays 13 = .ok (.invokestatic 60, 3) := by decide +kernel
theorem dX3_addDays_16 : decode cX3_addDays 16 = .ok (.iconst 0, 1) := by decide +kernel
theorem dX3_addDays_17 : decode cX3_addDays 17 = .ok (.istore_n 3, 1) := by decide +kernel
theorem dX3_addDays_18 : decode cX3_addDays 18 = .ok (.iload_n 3, 1) := by decide +kernel
theorem dX3_addDays_19 : decode cX3_addDays 19 = .ok (.aload_n 0, 1) := by decide +kernel
theorem dX3_addDays_20 : decode cX3_addDays 20 = .ok (.getfield 33, 3) := by decide +kernel
theorem dX3_addDays_23 : decode cX3_addDays 23 = .ok (.getfield 66, 3) := by decide +kernel
theorem dX3_addDays_26 : decode cX3_addDays 26 = .ok (.if_icmp .ge 75, 3) := by decide +kernel
theorem dX3_addDays_29 : decode cX3_addDays 29 = .ok (.aload_n 0, 1) := by decide +kernel
theorem dX3_addDays_30 : decode cX3_addDays 30 = .ok (.getfield 33, 3) := by decide +kernel
theorem dX3_addDays_33 : decode cX3_addDays 33 = .ok (.getfield 111, 3) := by decide +kernel
theorem dX3_addDays_36 : decode cX3_addDays 36 = .ok (.iload_n 3, 1) := by decide +kernel
theorem dX3_addDays_37 : decode cX3_addDays 37 = .ok (.aaload, 1) := by decide +kernel
theorem dX3_addDays_38 : decode cX3_addDays 38 = .ok (.astore 4, 2) := by decide +kernel
theorem dX3_addDays_40 : decode cX3_addDays 40 = .ok (.aload 4, 2) := by decide +kernel
theorem dX3_addDays_42 : decode cX3_addDays 42 = .ok (.getfield 114, 3) := by decide +kernel
theorem dX3_addDays_45 : decode cX3_addDays 45 = .ok (.iload_n 1, 1) := by decide +kernel
theorem dX3_addDays_46 : decode cX3_addDays 46 = .ok (.iload_n 2, 1) := by decide +kernel
theorem dX3_addDays_47 : decode cX3_addDays 47 = .ok (.invokestatic 117, 3) := by decide +kernel
theorem dX3_addDays_50 : decode cX3_addDays 50 = .ok (.ifCond .eq 45, 3) := by decide +kernel
theorem dX3_addDays_53 : decode cX3_addDays 53 = .ok (.aload_n 0, 1) := by decide +kernel
theorem dX3_addDays_54 : decode cX3_addDays 54 = .ok (.aload 4, 2) := by decide +kernel
theorem dX3_addDays_56 : decode cX3_addDays 56 = .ok (.invokevirtual 73, 3) := by decide +kernel
theorem dX3_addDays_59 : decode cX3_addDays 59 = .ok (.ifCond .eq 36, 3) := by decide +kernel
theorem dX3_addDays_62 : decode cX3_addDays 62 = .ok (.aload_n 0, 1) := by decide +kernel
theorem dX3_addDays_63 : decode cX3_addDays 63 = .ok (.getfield 21, 3) := by decide +kernel
theorem dX3_addDays_66 : decode cX3_addDays 66 = .ok (.aload 4, 2) := by decide +kernel
theorem dX3_addDays_68 : decode cX3_addDays 68 = .ok (.getfield 94, 3) := by decide +kernel
theorem dX3_addDays_71 : decode cX3_addDays 71 = .ok (.dup2, 1) := by decide +kernel
theorem dX3_addDays_72 : decode cX3_addDays 72 = .ok (.iaload, 1) := by decide +kernel
theorem dX3_addDays_73 : decode cX3_addDays 73 = .ok (.aload_n 0, 1) := by decide +kernel
theorem dX3_addDays_74 : decode cX3_addDays 74 = .ok (.aload 4, 2) := by decide +kernel
theorem dX3_addDays_76 : decode cX3_addDays 76 = .ok (.invokevirtual 121, 3) := by decide +kernel
theorem dX3_addDays_79 : decode cX3_addDays 79 = .ok (.iadd, 1) := by decide +kernel
theorem dX3_addDays_80 : decode cX3_addDays 80 = .ok (.iastore, 1) := by decide +kernel
theorem dX3_addDays_81 : decode cX3_addDays 81 = .ok (.aload_n 0, 1) := by decide +kernel
theorem dX3_addDays_82 : decode cX3_addDays 82 = .ok (.getfield 24, 3) := by decide +kernel
theorem dX3_addDays_85 : decode cX3_addDays 85 = .ok (.aload 4, 2) := by decide +kernel
theorem dX3_addDays_87 : decode cX3_addDays 87 = .ok (.getfield 94, 3) := by decide +kernel
theorem dX3_addDays_90 : decode cX3_addDays 90 = .ok (.dup2, 1) := by decide +kernel
theorem dX3_addDays_91 : decode cX3_addDays 91 = .ok (.iaload, 1) := by decide +kernel
theorem dX3_addDays_92 : decode cX3_addDays 92 = .ok (.iconst 1, 1) := by decide +kernel
theorem dX3_addDays_93 : decode cX3_addDays 93 = .ok (.iadd, 1) := by decide +kernel
theorem dX3_addDays_94 : decode cX3_addDays 94 = .ok (.iastore, 1) := by decide +kernel
theorem dX3_addDays_95 : decode cX3_addDays 95 = .ok (.iinc 3 1, 3) := by decide +kernel
theorem dX3_addDays_98 : decode cX3_addDays 98 = .ok (.goto (-80), 3) := by decide +kernel
theorem dX3_addDays_101 : decode cX3_addDays 101 = .ok (.return_, 1) := by decide +kernel
theorem dX3_isMet_0 : decode cX3_isMet 0 = .ok (.aload_n 0, 1) := by decide +kernel
theorem dX3_isMet_1 : decode cX3_isMet 1 = .ok (.getfield 24, 3) := by decide +kernel
theorem dX3_isMet_4 : decode cX3_isMet 4 = .ok (.iload_n 1, 1) := by decide +kernel
theorem dX3_isMet_5 : decode cX3_isMet 5 = .ok (.iaload, 1) := by decide +kernel
theorem dX3_isMet_6 : decode cX3_isMet 6 = .ok (.ifCond .le 7, 3) := by decide +kernel
theorem dX3_isMet_9 : decode cX3_isMet 9 = .ok (.iconst 1, 1) := by decide +kernel
theorem dX3_isMet_10 : decode cX3_isMet 10 = .ok (.goto 4, 3) := by decide +kernel
theorem dX3_isMet_13 : decode cX3_isMet 13 = .ok (.iconst 0, 1) := by decide +kernel
theorem dX3_isMet_14 : decode cX3_isMet 14 = .ok (.ireturn, 1) := by decide +kernel
theorem dX3_meanOf_0 : decode cX3_meanOf 0 = .ok (.aload_n 0, 1) := by decide +kernel
theorem dX3_meanOf_1 : decode cX3_meanOf 1 = .ok (.getfield 24, 3) := by decide +kernel
theorem dX3_meanOf_4 : decode cX3_meanOf 4 = .ok (.iload_n 1, 1) := by decide +kernel
theorem dX3_meanOf_5 : decode cX3_meanOf 5 = .ok (.iaload, 1) := by decide +kernel
theorem dX3_meanOf_6 : decode cX3_meanOf 6 = .ok (.ifCond .le 22, 3) := by decide +kernel
theorem dX3_meanOf_9 : decode cX3_meanOf 9 = .ok (.bipush 100, 2) := by decide +kernel
theorem dX3_meanOf_11 : decode cX3_meanOf 11 = .ok (.aload_n 0, 1) := by decide +kernel
theorem dX3_meanOf_12 : decode cX3_meanOf 12 = .ok (.getfield 21, 3) := by decide +kernel
theorem dX3_meanOf_15 : decode cX3_meanOf 15 = .ok (.iload_n 1, 1) := by decide +kernel
theorem dX3_meanOf_16 : decode cX3_meanOf 16 = .ok (.iaload, 1) := by decide +kernel
theorem dX3_meanOf_17 : decode cX3_meanOf 17 = .ok (.imul, 1) := by decide +kernel
theorem dX3_meanOf_18 : decode cX3_meanOf 18 = .ok (.aload_n 0, 1) := by decide +kernel
theorem dX3_meanOf_19 : decode cX3_meanOf 19 = .ok (.getfield 24, 3) := by decide +kernel
theorem dX3_meanOf_22 : decode cX3_meanOf 22 = .ok (.iload_n 1, 1) := by decide +kernel
theorem dX3_meanOf_23 : decode cX3_meanOf 23 = .ok (.iaload, 1) := by decide +kernel
theorem dX3_meanOf_24 : decode cX3_meanOf 24 = .ok (.idiv, 1) := by decide +kernel
theorem dX3_meanOf_25 : decode cX3_meanOf 25 = .ok (.goto 4, 3) := by decide +kernel
theorem dX3_meanOf_28 : decode cX3_meanOf 28 = .ok (.iconst 0, 1) := by decide +kernel
theorem dX3_meanOf_29 : decode cX3_meanOf 29 = .ok (.ireturn, 1) := by decide +kernel
theorem dX3_doubtOf_0 : decode cX3_doubtOf 0 = .ok (.aload_n 0, 1) := by decide +kernel
theorem dX3_doubtOf_1 : decode cX3_doubtOf 1 = .ok (.getfield 24, 3) := by decide +kernel
theorem dX3_doubtOf_4 : decode cX3_doubtOf 4 = .ok (.iload_n 1, 1) := by decide +kernel
theorem dX3_doubtOf_5 : decode cX3_doubtOf 5 = .ok (.iaload, 1) := by decide +kernel
theorem dX3_doubtOf_6 : decode cX3_doubtOf 6 = .ok (.ifCond .le 17, 3) := by decide +kernel
theorem dX3_doubtOf_9 : decode cX3_doubtOf 9 = .ok (.bipush 100, 2) := by decide +kernel
theorem dX3_doubtOf_11 : decode cX3_doubtOf 11 = .ok (.iload_n 2, 1) := by decide +kernel
theorem dX3_doubtOf_12 : decode cX3_doubtOf 12 = .ok (.imul, 1) := by decide +kernel
theorem dX3_doubtOf_13 : decode cX3_doubtOf 13 = .ok (.aload_n 0, 1) := by decide +kernel
theorem dX3_doubtOf_14 : decode cX3_doubtOf 14 = .ok (.getfield 24, 3) := by decide +kernel
theorem dX3_doubtOf_17 : decode cX3_doubtOf 17 = .ok (.iload_n 1, 1) := by decide +kernel
theorem dX3_doubtOf_18 : decode cX3_doubtOf 18 = .ok (.iaload, 1) := by decide +kernel
theorem dX3_doubtOf_19 : decode cX3_doubtOf 19 = .ok (.idiv, 1) := by decide +kernel
theorem dX3_doubtOf_20 : decode cX3_doubtOf 20 = .ok (.goto 4, 3) := by decide +kernel
theorem dX3_doubtOf_23 : decode cX3_doubtOf 23 = .ok (.iconst 0, 1) := by decide +kernel
theorem dX3_doubtOf_24 : decode cX3_doubtOf 24 = .ok (.ireturn, 1) := by decide +kernel
theorem dX3_isLess_0 : decode cX3_isLess 0 = .ok (.aload_n 0, 1) := by decide +kernel
theorem dX3_isLess_1 : decode cX3_isLess 1 = .ok (.iload_n 2, 1) := by decide +kernel
theorem dX3_isLess_2 : decode cX3_isLess 2 = .ok (.invokevirtual 125, 3) := by decide +kernel
theorem dX3_isLess_5 : decode cX3_isLess 5 = .ok (.aload_n 0, 1) := by decide +kernel
theorem dX3_isLess_6 : decode cX3_isLess 6 = .ok (.iload_n 1, 1) := by decide +kernel
theorem dX3_isLess_7 : decode cX3_isLess 7 = .ok (.invokevirtual 125, 3) := by decide +kernel
theorem dX3_isLess_10 : decode cX3_isLess 10 = .ok (.isub, 1) := by decide +kernel
theorem dX3_isLess_11 : decode cX3_isLess 11 = .ok (.aload_n 0, 1) := by decide +kernel
theorem dX3_isLess_12 : decode cX3_isLess 12 = .ok (.iload_n 1, 1) := by decide +kernel
theorem dX3_isLess_13 : decode cX3_isLess 13 = .ok (.iload_n 3, 1) := by decide +kernel
theorem dX3_isLess_14 : decode cX3_isLess 14 = .ok (.invokevirtual 128, 3) := by decide +kernel
theorem dX3_isLess_17 : decode cX3_isLess 17 = .ok (.aload_n 0, 1) := by decide +kernel
theorem dX3_isLess_18 : decode cX3_isLess 18 = .ok (.iload_n 2, 1) := by decide +kernel
theorem dX3_isLess_19 : decode cX3_isLess 19 = .ok (.iload_n 3, 1) := by decide +kernel
theorem dX3_isLess_20 : decode cX3_isLess 20 = .ok (.invokevirtual 128, 3) := by decide +kernel
theorem dX3_isLess_23 : decode cX3_isLess 23 = .ok (.iadd, 1) := by decide +kernel
theorem dX3_isLess_24 : decode cX3_isLess 24 = .ok (.if_icmp .le 7, 3) := by decide +kernel
theorem dX3_isLess_27 : decode cX3_isLess 27 = .ok (.iconst 1, 1) := by decide +kernel
theorem dX3_isLess_28 : decode cX3_isLess 28 = .ok (.goto 4, 3) := by decide +kernel
theorem dX3_isLess_31 : decode cX3_isLess 31 = .ok (.iconst 0, 1) := by decide +kernel
theorem dX3_isLess_32 : decode cX3_isLess 32 = .ok (.ireturn, 1) := by decide +kernel
theorem dX3_rankChain_0 : decode cX3_rankChain 0 = .ok (.aload_n 0, 1) := by decide +kernel
theorem dX3_rankChain_1 : decode cX3_rankChain 1 = .ok (.iconst 0, 1) := by decide +kernel
theorem dX3_rankChain_2 : decode cX3_rankChain 2 = .ok (.putfield 132, 3) := by decide +kernel
theorem dX3_rankChain_5 : decode cX3_rankChain 5 = .ok (.iconst 0, 1) := by decide +kernel
theorem dX3_rankChain_6 : decode cX3_rankChain 6 = .ok (.istore_n 2, 1) := by decide +kernel
theorem dX3_rankChain_7 : decode cX3_rankChain 7 = .ok (.iload_n 2, 1) := by decide +kernel
theorem dX3_rankChain_8 : decode cX3_rankChain 8 = .ok (.aload_n 0, 1) := by decide +kernel
theorem dX3_rankChain_9 : decode cX3_rankChain 9 = .ok (.getfield 33, 3) := by decide +kernel
theorem dX3_rankChain_12 : decode cX3_rankChain 12 = .ok (.getfield 135, 3) := by decide +kernel
theorem dX3_rankChain_15 : decode cX3_rankChain 15 = .ok (.if_icmp .ge 38, 3) := by decide +kernel
theorem dX3_rankChain_18 : decode cX3_rankChain 18 = .ok (.aload_n 0, 1) := by decide +kernel
theorem dX3_rankChain_19 : decode cX3_rankChain 19 = .ok (.getfield 33, 3) := by decide +kernel
theorem dX3_rankChain_22 : decode cX3_rankChain 22 = .ok (.getfield 138, 3) := by decide +kernel
theorem dX3_rankChain_25 : decode cX3_rankChain 25 = .ok (.iload_n 2, 1) := by decide +kernel
theorem dX3_rankChain_26 : decode cX3_rankChain 26 = .ok (.aaload, 1) := by decide +kernel
theorem dX3_rankChain_27 : decode cX3_rankChain 27 = .ok (.getfield 142, 3) := by decide +kernel
theorem dX3_rankChain_30 : decode cX3_rankChain 30 = .ok (.iload_n 1, 1) := by decide +kernel
theorem dX3_rankChain_31 : decode cX3_rankChain 31 = .ok (.if_icmp .ne 16, 3) := by decide +kernel
theorem dX3_rankChain_34 : decode cX3_rankChain 34 = .ok (.aload_n 0, 1) := by decide +kernel
theorem dX3_rankChain_35 : decode cX3_rankChain 35 = .ok (.iload_n 2, 1) := by decide +kernel
theorem dX3_rankChain_36 : decode cX3_rankChain 36 = .ok (.invokevirtual 147, 3) := by decide +kernel
theorem dX3_rankChain_39 : decode cX3_rankChain 39 = .ok (.ifCond .eq 8, 3) := by decide +kernel
theorem dX3_rankChain_42 : decode cX3_rankChain 42 = .ok (.aload_n 0, 1) := by decide +kernel
theorem dX3_rankChain_43 : decode cX3_rankChain 43 = .ok (.iload_n 2, 1) := by decide +kernel
theorem dX3_rankChain_44 : decode cX3_rankChain 44 = .ok (.invokevirtual 151, 3) := by decide +kernel
theorem dX3_rankChain_47 : decode cX3_rankChain 47 = .ok (.iinc 2 1, 3) := by decide +kernel
theorem dX3_rankChain_50 : decode cX3_rankChain 50 = .ok (.goto (-43), 3) := by decide +kernel
theorem dX3_rankChain_53 : decode cX3_rankChain 53 = .ok (.aload_n 0, 1) := by decide +kernel
theorem dX3_rankChain_54 : decode cX3_rankChain 54 = .ok (.getfield 132, 3) := by decide +kernel
theorem dX3_rankChain_57 : decode cX3_rankChain 57 = .ok (.ireturn, 1) := by decide +kernel
theorem dX3_rankShop_0 : decode cX3_rankShop 0 = .ok (.aload_n 0, 1) := by decide +kernel
theorem dX3_rankShop_1 : decode cX3_rankShop 1 = .ok (.getfield 132, 3) := by decide +kernel
theorem dX3_rankShop_4 : decode cX3_rankShop 4 = .ok (.istore_n 2, 1) := by decide +kernel
theorem dX3_rankShop_5 : decode cX3_rankShop 5 = .ok (.iload_n 2, 1) := by decide +kernel
theorem dX3_rankShop_6 : decode cX3_rankShop 6 = .ok (.ifCond .le 43, 3) := by decide +kernel
theorem dX3_rankShop_9 : decode cX3_rankShop 9 = .ok (.aload_n 0, 1) := by decide +kernel
theorem dX3_rankShop_10 : decode cX3_rankShop 10 = .ok (.aload_n 0, 1) := by decide +kernel
theorem dX3_rankShop_11 : decode cX3_rankShop 11 = .ok (.getfield 27, 3) := by decide +kernel
theorem dX3_rankShop_14 : decode cX3_rankShop 14 = .ok (.iload_n 2, 1) := by decide +kernel
theorem dX3_rankShop_15 : decode cX3_rankShop 15 = .ok (.iconst 1, 1) := by decide +kernel
theorem dX3_rankShop_16 : decode cX3_rankShop 16 = .ok (.isub, 1) := by decide +kernel
theorem dX3_rankShop_17 : decode cX3_rankShop 17 = .ok (.iaload, 1) := by decide +kernel
theorem dX3_rankShop_18 : decode cX3_rankShop 18 = .ok (.invokevirtual 125, 3) := by decide +kernel
theorem dX3_rankShop_21 : decode cX3_rankShop 21 = .ok (.aload_n 0, 1) := by decide +kernel
theorem dX3_rankShop_22 : decode cX3_rankShop 22 = .ok (.iload_n 1, 1) := by decide +kernel
theorem dX3_rankShop_23 : decode cX3_rankShop 23 = .ok (.invokevirtual 125, 3) := by decide +kernel
theorem dX3_rankShop_26 : decode cX3_rankShop 26 = .ok (.if_icmp .le 23, 3) := by decide +kernel
theorem dX3_rankShop_29 : decode cX3_rankShop 29 = .ok (.aload_n 0, 1) := by decide +kernel
theorem dX3_rankShop_30 : decode cX3_rankShop 30 = .ok (.getfield 27, 3) := by decide +kernel
theorem dX3_rankShop_33 : decode cX3_rankShop 33 = .ok (.iload_n 2, 1) := by decide +kernel
theorem dX3_rankShop_34 : decode cX3_rankShop 34 = .ok (.aload_n 0, 1) := by decide +kernel
theorem dX3_rankShop_35 : decode cX3_rankShop 35 = .ok (.getfield 27, 3) := by decide +kernel
theorem dX3_rankShop_38 : decode cX3_rankShop 38 = .ok (.iload_n 2, 1) := by decide +kernel
theorem dX3_rankShop_39 : decode cX3_rankShop 39 = .ok (.iconst 1, 1) := by decide +kernel
theorem dX3_rankShop_40 : decode cX3_rankShop 40 = .ok (.isub, 1) := by decide +kernel
theorem dX3_rankShop_41 : decode cX3_rankShop 41 = .ok (.iaload, 1) := by decide +kernel
theorem dX3_rankShop_42 : decode cX3_rankShop 42 = .ok (.iastore, 1) := by decide +kernel
theorem dX3_rankShop_43 : decode cX3_rankShop 43 = .ok (.iinc 2 (-1), 3) := by decide +kernel
theorem dX3_rankShop_46 : decode cX3_rankShop 46 = .ok (.goto (-41), 3) := by decide +kernel
theorem dX3_rankShop_49 : decode cX3_rankShop 49 = .ok (.aload_n 0, 1) := by decide +kernel
theorem dX3_rankShop_50 : decode cX3_rankShop 50 = .ok (.getfield 27, 3) := by decide +kernel
theorem dX3_rankShop_53 : decode cX3_rankShop 53 = .ok (.iload_n 2, 1) := by decide +kernel
theorem dX3_rankShop_54 : decode cX3_rankShop 54 = .ok (.iload_n 1, 1) := by decide +kernel
theorem dX3_rankShop_55 : decode cX3_rankShop 55 = .ok (.iastore, 1) := by decide +kernel
theorem dX3_rankShop_56 : decode cX3_rankShop 56 = .ok (.aload_n 0, 1) := by decide +kernel
theorem dX3_rankShop_57 : decode cX3_rankShop 57 = .ok (.dup, 1) := by decide +kernel
theorem dX3_rankShop_58 : decode cX3_rankShop 58 = .ok (.getfield 132, 3) := by decide +kernel
theorem dX3_rankShop_61 : decode cX3_rankShop 61 = .ok (.iconst 1, 1) := by decide +kernel
theorem dX3_rankShop_62 : decode cX3_rankShop 62 = .ok (.iadd, 1) := by decide +kernel
theorem dX3_rankShop_63 : decode cX3_rankShop 63 = .ok (.putfield 132, 3) := by decide +kernel
theorem dX3_rankShop_66 : decode cX3_rankShop 66 = .ok (.return_, 1) := by decide +kernel
theorem dX3_longestRow_0 : decode cX3_longestRow 0 = .ok (.iconst 0, 1) := by decide +kernel
theorem dX3_longestRow_1 : decode cX3_longestRow 1 = .ok (.istore_n 2, 1) := by decide +kernel
theorem dX3_longestRow_2 : decode cX3_longestRow 2 = .ok (.iconst 0, 1) := by decide +kernel
theorem dX3_longestRow_3 : decode cX3_longestRow 3 = .ok (.istore_n 3, 1) := by decide +kernel
theorem dX3_longestRow_4 : decode cX3_longestRow 4 = .ok (.iload_n 3, 1) := by decide +kernel
theorem dX3_longestRow_5 : decode cX3_longestRow 5 = .ok (.aload_n 0, 1) := by decide +kernel
theorem dX3_longestRow_6 : decode cX3_longestRow 6 = .ok (.getfield 132, 3) := by decide +kernel
theorem dX3_longestRow_9 : decode cX3_longestRow 9 = .ok (.if_icmp .ge 94, 3) := by decide +kernel
theorem dX3_longestRow_12 : decode cX3_longestRow 12 = .ok (.aload_n 0, 1) := by decide +kernel
theorem dX3_longestRow_13 : decode cX3_longestRow 13 = .ok (.getfield 30, 3) := by decide +kernel
theorem dX3_longestRow_16 : decode cX3_longestRow 16 = .ok (.iload_n 3, 1) := by decide +kernel
theorem dX3_longestRow_17 : decode cX3_longestRow 17 = .ok (.iconst 1, 1) := by decide +kernel
theorem dX3_longestRow_18 : decode cX3_longestRow 18 = .ok (.iastore, 1) := by decide +kernel
theorem dX3_longestRow_19 : decode cX3_longestRow 19 = .ok (.iconst 0, 1) := by decide +kernel
theorem dX3_longestRow_20 : decode cX3_longestRow 20 = .ok (.istore 4, 2) := by decide +kernel
theorem dX3_longestRow_22 : decode cX3_longestRow 22 = .ok (.iload 4, 2) := by decide +kernel
theorem dX3_longestRow_24 : decode cX3_longestRow 24 = .ok (.iload_n 3, 1) := by decide +kernel
theorem dX3_longestRow_25 : decode cX3_longestRow 25 = .ok (.if_icmp .ge 61, 3) := by decide +kernel
theorem dX3_longestRow_28 : decode cX3_longestRow 28 = .ok (.aload_n 0, 1) := by decide +kernel
theorem dX3_longestRow_29 : decode cX3_longestRow 29 = .ok (.getfield 30, 3) := by decide +kernel
theorem dX3_longestRow_32 : decode cX3_longestRow 32 = .ok (.iload 4, 2) := by decide +kernel
theorem dX3_longestRow_34 : decode cX3_longestRow 34 = .ok (.iaload, 1) := by decide +kernel
theorem dX3_longestRow_35 : decode cX3_longestRow 35 = .ok (.aload_n 0, 1) := by decide +kernel
theorem dX3_longestRow_36 : decode cX3_longestRow 36 = .ok (.getfield 30, 3) := by decide +kernel
theorem dX3_longestRow_39 : decode cX3_longestRow 39 = .ok (.iload_n 3, 1) := by decide +kernel
theorem dX3_longestRow_40 : decode cX3_longestRow 40 = .ok (.iaload, 1) := by decide +kernel
theorem dX3_longestRow_41 : decode cX3_longestRow 41 = .ok (.if_icmp .lt 39, 3) := by decide +kernel
theorem dX3_longestRow_44 : decode cX3_longestRow 44 = .ok (.aload_n 0, 1) := by decide +kernel
theorem dX3_longestRow_45 : decode cX3_longestRow 45 = .ok (.aload_n 0, 1) := by decide +kernel
theorem dX3_longestRow_46 : decode cX3_longestRow 46 = .ok (.getfield 27, 3) := by decide +kernel
theorem dX3_longestRow_49 : decode cX3_longestRow 49 = .ok (.iload 4, 2) := by decide +kernel
theorem dX3_longestRow_51 : decode cX3_longestRow 51 = .ok (.iaload, 1) := by decide +kernel
theorem dX3_longestRow_52 : decode cX3_longestRow 52 = .ok (.aload_n 0, 1) := by decide +kernel
theorem dX3_longestRow_53 : decode cX3_longestRow 53 = .ok (.getfield 27, 3) := by decide +kernel
theorem dX3_longestRow_56 : decode cX3_longestRow 56 = .ok (.iload_n 3, 1) := by decide +kernel
theorem dX3_longestRow_57 : decode cX3_longestRow 57 = .ok (.iaload, 1) := by decide +kernel
theorem dX3_longestRow_58 : decode cX3_longestRow 58 = .ok (.iload_n 1, 1) := by decide +kernel
theorem dX3_longestRow_59 : decode cX3_longestRow 59 = .ok (.invokevirtual 154, 3) := by decide +kernel
theorem dX3_longestRow_62 : decode cX3_longestRow 62 = .ok (.ifCond .eq 18, 3) := by decide +kernel
theorem dX3_longestRow_65 : decode cX3_longestRow 65 = .ok (.aload_n 0, 1) := by decide +kernel
theorem dX3_longestRow_66 : decode cX3_longestRow 66 = .ok (.getfield 30, 3) := by decide +kernel
theorem dX3_longestRow_69 : decode cX3_longestRow 69 = .ok (.iload_n 3, 1) := by decide +kernel
theorem dX3_longestRow_70 : decode cX3_longestRow 70 = .ok (.aload_n 0, 1) := by decide +kernel
theorem dX3_longestRow_71 : decode cX3_longestRow 71 = .ok (.getfield 30, 3) := by decide +kernel
theorem dX3_longestRow_74 : decode cX3_longestRow 74 = .ok (.iload 4, 2) := by decide +kernel
theorem dX3_longestRow_76 : decode cX3_longestRow 76 = .ok (.iaload, 1) := by decide +kernel
theorem dX3_longestRow_77 : decode cX3_longestRow 77 = .ok (.iconst 1, 1) := by decide +kernel
theorem dX3_longestRow_78 : decode cX3_longestRow 78 = .ok (.iadd, 1) := by decide +kernel
theorem dX3_longestRow_79 : decode cX3_longestRow 79 = .ok (.iastore, 1) := by decide +kernel
theorem dX3_longestRow_80 : decode cX3_longestRow 80 = .ok (.iinc 4 1, 3) := by decide +kernel
theorem dX3_longestRow_83 : decode cX3_longestRow 83 = .ok (.goto (-61), 3) := by decide +kernel
theorem dX3_longestRow_86 : decode cX3_longestRow 86 = .ok (.iload_n 2, 1) := by decide +kernel
theorem dX3_longestRow_87 : decode cX3_longestRow 87 = .ok (.aload_n 0, 1) := by decide +kernel
theorem dX3_longestRow_88 : decode cX3_longestRow 88 = .ok (.getfield 30, 3) := by decide +kernel
theorem dX3_longestRow_91 : decode cX3_longestRow 91 = .ok (.iload_n 3, 1) := by decide +kernel
theorem dX3_longestRow_92 : decode cX3_longestRow 92 = .ok (.iaload, 1) := by decide +kernel
theorem dX3_longestRow_93 : decode cX3_longestRow 93 = .ok (.invokestatic 157, 3) := by decide +kernel
theorem dX3_longestRow_96 : decode cX3_longestRow 96 = .ok (.istore_n 2, 1) := by decide +kernel
theorem dX3_longestRow_97 : decode cX3_longestRow 97 = .ok (.iinc 3 1, 3) := by decide +kernel
theorem dX3_longestRow_100 : decode cX3_longestRow 100 = .ok (.goto (-96), 3) := by decide +kernel
theorem dX3_longestRow_103 : decode cX3_longestRow 103 = .ok (.iload_n 2, 1) := by decide +kernel
theorem dX3_longestRow_104 : decode cX3_longestRow 104 = .ok (.ireturn, 1) := by decide +kernel
theorem dX3_leadBits_0 : decode cX3_leadBits 0 = .ok (.iconst 0, 1) := by decide +kernel
theorem dX3_leadBits_1 : decode cX3_leadBits 1 = .ok (.istore_n 2, 1) := by decide +kernel
theorem dX3_leadBits_2 : decode cX3_leadBits 2 = .ok (.iconst 0, 1) := by decide +kernel
theorem dX3_leadBits_3 : decode cX3_leadBits 3 = .ok (.istore_n 3, 1) := by decide +kernel
theorem dX3_leadBits_4 : decode cX3_leadBits 4 = .ok (.iload_n 3, 1) := by decide +kernel
theorem dX3_leadBits_5 : decode cX3_leadBits 5 = .ok (.aload_n 0, 1) := by decide +kernel
theorem dX3_leadBits_6 : decode cX3_leadBits 6 = .ok (.getfield 132, 3) := by decide +kernel
theorem dX3_leadBits_9 : decode cX3_leadBits 9 = .ok (.if_icmp .ge 29, 3) := by decide +kernel
theorem dX3_leadBits_12 : decode cX3_leadBits 12 = .ok (.aload_n 0, 1) := by decide +kernel
theorem dX3_leadBits_13 : decode cX3_leadBits 13 = .ok (.iload_n 3, 1) := by decide +kernel
theorem dX3_leadBits_14 : decode cX3_leadBits 14 = .ok (.iload_n 1, 1) := by decide +kernel
theorem dX3_leadBits_15 : decode cX3_leadBits 15 = .ok (.invokevirtual 162, 3) := by decide +kernel
theorem dX3_leadBits_18 : decode cX3_leadBits 18 = .ok (.ifCond .ne 14, 3) := by decide +kernel
theorem dX3_leadBits_21 : decode cX3_leadBits 21 = .ok (.iload_n 2, 1) := by decide +kernel
theorem dX3_leadBits_22 : decode cX3_leadBits 22 = .ok (.iconst 1, 1) := by decide +kernel
theorem dX3_leadBits_23 : decode cX3_leadBits 23 = .ok (.aload_n 0, 1) := by decide +kernel
theorem dX3_leadBits_24 : decode cX3_leadBits 24 = .ok (.getfield 27, 3) := by decide +kernel
theorem dX3_leadBits_27 : decode cX3_leadBits 27 = .ok (.iload_n 3, 1) := by decide +kernel
theorem dX3_leadBits_28 : decode cX3_leadBits 28 = .ok (.iaload, 1) := by decide +kernel
theorem dX3_leadBits_29 : decode cX3_leadBits 29 = .ok (.ishl, 1) := by decide +kernel
theorem dX3_leadBits_30 : decode cX3_leadBits 30 = .ok (.ior, 1) := by decide +kernel
theorem dX3_leadBits_31 : decode cX3_leadBits 31 = .ok (.istore_n 2, 1) := by decide +kernel
theorem dX3_leadBits_32 : decode cX3_leadBits 32 = .ok (.iinc 3 1, 3) := by decide +kernel
theorem dX3_leadBits_35 : decode cX3_leadBits 35 = .ok (.goto (-31), 3) := by decide +kernel
theorem dX3_leadBits_38 : decode cX3_leadBits 38 = .ok (.iload_n 2, 1) := by decide +kernel
theorem dX3_leadBits_39 : decode cX3_leadBits 39 = .ok (.ireturn, 1) := by decide +kernel
theorem dX3_isBeaten_0 : decode cX3_isBeaten 0 = .ok (.iload_n 1, 1) := by decide +kernel
theorem dX3_isBeaten_1 : decode cX3_isBeaten 1 = .ok (.iconst 1, 1) := by decide +kernel
theorem dX3_isBeaten_2 : decode cX3_isBeaten 2 = .ok (.iadd, 1) := by decide +kernel
theorem dX3_isBeaten_3 : decode cX3_isBeaten 3 = .ok (.istore_n 3, 1) := by decide +kernel
theorem dX3_isBeaten_4 : decode cX3_isBeaten 4 = .ok (.iload_n 3, 1) := by decide +kernel
theorem dX3_isBeaten_5 : decode cX3_isBeaten 5 = .ok (.aload_n 0, 1) := by decide +kernel
theorem dX3_isBeaten_6 : decode cX3_isBeaten 6 = .ok (.getfield 132, 3) := by decide +kernel
theorem dX3_isBeaten_9 : decode cX3_isBeaten 9 = .ok (.if_icmp .ge 31, 3) := by decide +kernel
theorem dX3_isBeaten_12 : decode cX3_isBeaten 12 = .ok (.aload_n 0, 1) := by decide +kernel
theorem dX3_isBeaten_13 : decode cX3_isBeaten 13 = .ok (.aload_n 0, 1) := by decide +kernel
theorem dX3_isBeaten_14 : decode cX3_isBeaten 14 = .ok (.getfield 27, 3) := by decide +kernel
theorem dX3_isBeaten_17 : decode cX3_isBeaten 17 = .ok (.iload_n 1, 1) := by decide +kernel
theorem dX3_isBeaten_18 : decode cX3_isBeaten 18 = .ok (.iaload, 1) := by decide +kernel
theorem dX3_isBeaten_19 : decode cX3_isBeaten 19 = .ok (.aload_n 0, 1) := by decide +kernel
theorem dX3_isBeaten_20 : decode cX3_isBeaten 20 = .ok (.getfield 27, 3) := by decide +kernel
theorem dX3_isBeaten_23 : decode cX3_isBeaten 23 = .ok (.iload_n 3, 1) := by decide +kernel
theorem dX3_isBeaten_24 : decode cX3_isBeaten 24 = .ok (.iaload, 1) := by decide +kernel
theorem dX3_isBeaten_25 : decode cX3_isBeaten 25 = .ok (.iload_n 2, 1) := by decide +kernel
theorem dX3_isBeaten_26 : decode cX3_isBeaten 26 = .ok (.invokevirtual 154, 3) := by decide +kernel
theorem dX3_isBeaten_29 : decode cX3_isBeaten 29 = .ok (.ifCond .eq 5, 3) := by decide +kernel
theorem dX3_isBeaten_32 : decode cX3_isBeaten 32 = .ok (.iconst 1, 1) := by decide +kernel
theorem dX3_isBeaten_33 : decode cX3_isBeaten 33 = .ok (.ireturn, 1) := by decide +kernel
theorem dX3_isBeaten_34 : decode cX3_isBeaten 34 = .ok (.iinc 3 1, 3) := by decide +kernel
theorem dX3_isBeaten_37 : decode cX3_isBeaten 37 = .ok (.goto (-33), 3) := by decide +kernel
theorem dX3_isBeaten_40 : decode cX3_isBeaten 40 = .ok (.iconst 0, 1) := by decide +kernel
theorem dX3_isBeaten_41 : decode cX3_isBeaten 41 = .ok (.ireturn, 1) := by decide +kernel
theorem dX4_init_0 : decode cX4_init 0 = .ok (.aload_n 0, 1) := by decide +kernel
theorem dX4_init_1 : decode cX4_init 1 = .ok (.invokespecial 1, 3) := by decide +kernel
theorem dX4_init_4 : decode cX4_init 4 = .ok (.aload_n 0, 1) := by decide +kernel
theorem dX4_init_5 : decode cX4_init 5 = .ok (.iload_n 1, 1) := by decide +kernel
theorem dX4_init_6 : decode cX4_init 6 = .ok (.putfield 7, 3) := by decide +kernel
theorem dX4_init_9 : decode cX4_init 9 = .ok (.aload_n 0, 1) := by decide +kernel
theorem dX4_init_10 : decode cX4_init 10 = .ok (.iload_n 2, 1) := by decide +kernel
theorem dX4_init_11 : decode cX4_init 11 = .ok (.putfield 13, 3) := by decide +kernel
theorem dX4_init_14 : decode cX4_init 14 = .ok (.return_, 1) := by decide +kernel
theorem dX4_wayTo_0 : decode cX4_wayTo 0 = .ok (.aload_n 0, 1) := by decide +kernel
theorem dX4_wayTo_1 : decode cX4_wayTo 1 = .ok (.getfield 7, 3) := by decide +kernel
theorem dX4_wayTo_4 : decode cX4_wayTo 4 = .ok (.aload_n 1, 1) := by decide +kernel
theorem dX4_wayTo_5 : decode cX4_wayTo 5 = .ok (.getfield 7, 3) := by decide +kernel
theorem dX4_wayTo_8 : decode cX4_wayTo 8 = .ok (.isub, 1) := by decide +kernel
theorem dX4_wayTo_9 : decode cX4_wayTo 9 = .ok (.invokestatic 16, 3) := by decide +kernel
theorem dX4_wayTo_12 : decode cX4_wayTo 12 = .ok (.aload_n 0, 1) := by decide +kernel
theorem dX4_wayTo_13 : decode cX4_wayTo 13 = .ok (.getfield 13, 3) := by decide +kernel
theorem dX4_wayTo_16 : decode cX4_wayTo 16 = .ok (.aload_n 1, 1) := by decide +kernel
theorem dX4_wayTo_17 : decode cX4_wayTo 17 = .ok (.getfield 13, 3) := by decide +kernel
theorem dX4_wayTo_20 : decode cX4_wayTo 20 = .ok (.isub, 1) := by decide +kernel
theorem dX4_wayTo_21 : decode cX4_wayTo 21 = .ok (.invokestatic 16, 3) := by decide +kernel
theorem dX4_wayTo_24 : decode cX4_wayTo 24 = .ok (.iadd, 1) := by decide +kernel
theorem dX4_wayTo_25 : decode cX4_wayTo 25 = .ok (.ireturn, 1) := by decide +kernel
theorem dX5_init_0 : decode cX5_init 0 = .ok (.aload_n 0, 1) := by decide +kernel
theorem dX5_init_1 : decode cX5_init 1 = .ok (.invokespecial 3, 3) := by decide +kernel
theorem dX5_init_4 : decode cX5_init 4 = .ok (.aload_n 0, 1) := by decide +kernel
theorem dX5_init_5 : decode cX5_init 5 = .ok (.bipush 8, 2) := by decide +kernel
theorem dX5_init_7 : decode cX5_init 7 = .ok (.newarray .long, 2) := by decide +kernel
theorem dX5_init_9 : decode cX5_init 9 = .ok (.putfield 9, 3) := by decide +kernel
theorem dX5_init_12 : decode cX5_init 12 = .ok (.aload_n 0, 1) := by decide +kernel
theorem dX5_init_13 : decode cX5_init 13 = .ok (.sipush 1000, 3) := by decide +kernel
theorem dX5_init_16 : decode cX5_init 16 = .ok (.newarray .int, 2) := by decide +kernel
theorem dX5_init_18 : decode cX5_init 18 = .ok (.putfield 15, 3) := by decide +kernel
theorem dX5_init_21 : decode cX5_init 21 = .ok (.aload_n 0, 1) := by decide +kernel
theorem dX5_init_22 : decode cX5_init 22 = .ok (.aload_n 1, 1) := by decide +kernel
theorem dX5_init_23 : decode cX5_init 23 = .ok (.putfield 19, 3) := by decide +kernel
theorem dX5_init_26 : decode cX5_init 26 = .ok (.return_, 1) := by decide +kernel
theorem dX5_codeRead_0 : decode cX5_codeRead 0 = .ok (.aload_n 0, 1) := by decide +kernel
theorem dX5_codeRead_1 : decode cX5_codeRead 1 = .ok (.getfield 15, 3) := by decide +kernel
theorem dX5_codeRead_4 : decode cX5_codeRead 4 = .ok (.aload_n 0, 1) := by decide +kernel
theorem dX5_codeRead_5 : decode cX5_codeRead 5 = .ok (.getfield 23, 3) := by decide +kernel
theorem dX5_codeRead_8 : decode cX5_codeRead 8 = .ok (.invokestatic 27, 3) := by decide +kernel
theorem dX5_codeRead_11 : decode cX5_codeRead 11 = .ok (.areturn, 1) := by decide +kernel
theorem dX5_readBrief_0 : decode cX5_readBrief 0 = .ok (.aload_n 0, 1) := by decide +kernel
theorem dX5_readBrief_1 : decode cX5_readBrief 1 = .ok (.iconst 0, 1) := by decide +kernel
theorem dX5_readBrief_2 : decode cX5_readBrief 2 = .ok (.putfield 33, 3) := by decide +kernel
theorem dX5_readBrief_5 : decode cX5_readBrief 5 = .ok (.aload_n 0, 1) := by decide +kernel
theorem dX5_readBrief_6 : decode cX5_readBrief 6 = .ok (.iconst 0, 1) := by decide +kernel
theorem dX5_readBrief_7 : decode cX5_readBrief 7 = .ok (.putfield 36, 3) := by decide +kernel
theorem dX5_readBrief_10 : decode cX5_readBrief 10 = .ok (.aload_n 0, 1) := by decide +kernel
theorem dX5_readBrief_11 : decode cX5_readBrief 11 = .ok (.iconst 0, 1) := by decide +kernel
theorem dX5_readBrief_12 : decode cX5_readBrief 12 = .ok (.putfield 23, 3) := by decide +kernel
theorem dX5_readBrief_15 : decode cX5_readBrief 15 = .ok (.aload_n 0, 1) := by decide +kernel
theorem dX5_readBrief_16 : decode cX5_readBrief 16 = .ok (.getfield 19, 3) := by decide +kernel
theorem dX5_readBrief_19 : decode cX5_readBrief 19 = .ok (.invokevirtual 39, 3) := by decide +kernel
theorem dX5_readBrief_22 : decode cX5_readBrief 22 = .ok (.iconst 0, 1) := by decide +kernel
theorem dX5_readBrief_23 : decode cX5_readBrief 23 = .ok (.istore_n 1, 1) := by decide +kernel
theorem dX5_readBrief_24 : decode cX5_readBrief 24 = .ok (.iload_n 1, 1) := by decide +kernel
theorem dX5_readBrief_25 : decode cX5_readBrief 25 = .ok (.bipush 16, 2) := by decide +kernel
theorem dX5_readBrief_27 : decode cX5_readBrief 27 = .ok (.if_icmp .gt 133, 3) := by decide +kernel
theorem dX5_readBrief_30 : decode cX5_readBrief 30 = .ok (.aload_n 0, 1) := by decide +kernel
theorem dX5_readBrief_31 : decode cX5_readBrief 31 = .ok (.getfield 33, 3) := by decide +kernel
theorem dX5_readBrief_34 : decode cX5_readBrief 34 = .ok (.ifCond .ne 126, 3) := by decide +kernel
theorem dX5_readBrief_37 : decode cX5_readBrief 37 = .ok (.aload_n 0, 1) := by decide +kernel
theorem dX5_readBrief_38 : decode cX5_readBrief 38 = .ok (.getfield 19, 3) := by decide +kernel
theorem dX5_readBrief_41 : decode cX5_readBrief 41 = .ok (.getfield 44, 3) := by decide +kernel
theorem dX5_readBrief_44 : decode cX5_readBrief 44 = .ok (.iconst 1, 1) := by decide +kernel
theorem dX5_readBrief_45 : decode cX5_readBrief 45 = .ok (.if_icmp .eq 115, 3) := by decide +kernel
theorem dX5_readBrief_48 : decode cX5_readBrief 48 = .ok (.aload_n 0, 1) := by decide +kernel
theorem dX5_readBrief_49 : decode cX5_readBrief 49 = .ok (.getfield 19, 3) := by decide +kernel
theorem dX5_readBrief_52 : decode cX5_readBrief 52 = .ok (.getfield 44, 3) := by decide +kernel
theorem dX5_readBrief_55 : decode cX5_readBrief 55 = .ok (.istore_n 2, 1) := by decide +kernel
theorem dX5_readBrief_56 : decode cX5_readBrief 56 = .ok (.iload_n 2, 1) := by decide +kernel
theorem dX5_readBrief_57 : decode cX5_readBrief 57 = .ok (.bipush 12, 2) := by decide +kernel
theorem dX5_readBrief_59 : decode cX5_readBrief 59 = .ok (.if_icmp .eq 29, 3) := by decide +kernel
theorem dX5_readBrief_62 : decode cX5_readBrief 62 = .ok (.iload_n 2, 1) := by decide +kernel
theorem dX5_readBrief_63 : decode cX5_readBrief 63 = .ok (.bipush 13, 2) := by decide +kernel
theorem dX5_readBrief_65 : decode cX5_readBrief 65 = .ok (.if_icmp .eq 23, 3) := by decide +kernel
theorem dX5_readBrief_68 : decode cX5_readBrief 68 = .ok (.iload_n 2, 1) := by decide +kernel
theorem dX5_readBrief_69 : decode cX5_readBrief 69 = .ok (.bipush 15, 2) := by decide +kernel
theorem dX5_readBrief_71 : decode cX5_readBrief 71 = .ok (.if_icmp .eq 17, 3) := by decide +kernel
theorem dX5_readBrief_74 : decode cX5_readBrief 74 = .ok (.iload_n 2, 1) := by decide +kernel
theorem dX5_readBrief_75 : decode cX5_readBrief 75 = .ok (.bipush 16, 2) := by decide +kernel
theorem dX5_readBrief_77 : decode cX5_readBrief 77 = .ok (.if_icmp .eq 11, 3) := by decide +kernel
theorem dX5_readBrief_80 : decode cX5_readBrief 80 = .ok (.aload_n 0, 1) := by decide +kernel
theorem dX5_readBrief_81 : decode cX5_readBrief 81 = .ok (.iconst 1, 1) := by decide +kernel
theorem dX5_readBrief_82 : decode cX5_readBrief 82 = .ok (.invokevirtual 47, 3) := by decide +kernel
theorem dX5_readBrief_85 : decode cX5_readBrief 85 = .ok (.goto 69, 3) := by decide +kernel
theorem dX5_readBrief_88 : decode cX5_readBrief 88 = .ok (.iload_n 1, 1) := by decide +kernel
theorem dX5_readBrief_89 : decode cX5_readBrief 89 = .ok (.bipush 16, 2) := by decide +kernel
theorem dX5_readBrief_91 : decode cX5_readBrief 91 = .ok (.if_icmp .lt 11, 3) := by decide +kernel
theorem dX5_readBrief_94 : decode cX5_readBrief 94 = .ok (.aload_n 0, 1) := by decide +kernel
theorem dX5_readBrief_95 : decode cX5_readBrief 95 = .ok (.iconst 5, 1) := by decide +kernel
theorem dX5_readBrief_96 : decode cX5_readBrief 96 = .ok (.invokevirtual 47, 3) := by decide +kernel
theorem dX5_readBrief_99 : decode cX5_readBrief 99 = .ok (.goto 55, 3) := by decide +kernel
theorem dX5_readBrief_102 : decode cX5_readBrief 102 = .ok (.iload_n 2, 1) := by decide +kernel
theorem dX5_readBrief_103 : decode cX5_readBrief 103 = .ok (.bipush 12, 2) := by decide +kernel
theorem dX5_readBrief_105 : decode cX5_readBrief 105 = .ok (.if_icmp .ne 17, 3) := by decide +kernel
theorem dX5_readBrief_108 : decode cX5_readBrief 108 = .ok (.aload_n 0, 1) := by decide +kernel
theorem dX5_readBrief_109 : decode cX5_readBrief 109 = .ok (.getfield 19, 3) := by decide +kernel
theorem dX5_readBrief_112 : decode cX5_readBrief 112 = .ok (.invokevirtual 51, 3) := by decide +kernel
theorem dX5_readBrief_115 : decode cX5_readBrief 115 = .ok (.aload_n 0, 1) := by decide +kernel
theorem dX5_readBrief_116 : decode cX5_readBrief 116 = .ok (.invokevirtual 54, 3) := by decide +kernel
theorem dX5_readBrief_119 : decode cX5_readBrief 119 = .ok (.goto 35, 3) := by decide +kernel
theorem dX5_readBrief_122 : decode cX5_readBrief 122 = .ok (.iload_n 2, 1) := by decide +kernel
theorem dX5_readBrief_123 : decode cX5_readBrief 123 = .ok (.bipush 16, 2) := by decide +kernel
theorem dX5_readBrief_125 : decode cX5_readBrief 125 = .ok (.if_icmp .ne 17, 3) := by decide +kernel
theorem dX5_readBrief_128 : decode cX5_readBrief 128 = .ok (.aload_n 0, 1) := by decide +kernel
theorem dX5_readBrief_129 : decode cX5_readBrief 129 = .ok (.getfield 19, 3) := by decide +kernel
theorem dX5_readBrief_132 : decode cX5_readBrief 132 = .ok (.invokevirtual 51, 3) := by decide +kernel
theorem dX5_readBrief_135 : decode cX5_readBrief 135 = .ok (.aload_n 0, 1) := by decide +kernel
theorem dX5_readBrief_136 : decode cX5_readBrief 136 = .ok (.invokevirtual 57, 3) := by decide +kernel
theorem dX5_readBrief_139 : decode cX5_readBrief 139 = .ok (.goto 15, 3) := by decide +kernel
theorem dX5_readBrief_142 : decode cX5_readBrief 142 = .ok (.aload_n 0, 1) := by decide +kernel
theorem dX5_readBrief_143 : decode cX5_readBrief 143 = .ok (.getfield 19, 3) := by decide +kernel
theorem dX5_readBrief_146 : decode cX5_readBrief 146 = .ok (.invokevirtual 51, 3) := by decide +kernel
theorem dX5_readBrief_149 : decode cX5_readBrief 149 = .ok (.aload_n 0, 1) := by decide +kernel
theorem dX5_readBrief_150 : decode cX5_readBrief 150 = .ok (.iload_n 2, 1) := by decide +kernel
theorem dX5_readBrief_151 : decode cX5_readBrief 151 = .ok (.invokevirtual 60, 3) := by decide +kernel
theorem dX5_readBrief_154 : decode cX5_readBrief 154 = .ok (.iinc 1 1, 3) := by decide +kernel
theorem dX5_readBrief_157 : decode cX5_readBrief 157 = .ok (.goto (-133), 3) := by decide +kernel
theorem dX5_readBrief_160 : decode cX5_readBrief 160 = .ok (.aload_n 0, 1) := by decide +kernel
theorem dX5_readBrief_161 : decode cX5_readBrief 161 = .ok (.getfield 33, 3) := by decide +kernel
theorem dX5_readBrief_164 : decode cX5_readBrief 164 = .ok (.ireturn, 1) := by decide +kernel
theorem dX5_readAddOrMust_0 : decode cX5_readAddOrMust 0 = .ok (.aload_n 0, 1) := by decide +kernel
theorem dX5_readAddOrMust_1 : decode cX5_readAddOrMust 1 = .ok (.iconst 0, 1) := by decide +kernel
theorem dX5_readAddOrMust_2 : decode cX5_readAddOrMust 2 = .ok (.iconst 0, 1) := by decide +kernel
theorem dX5_readAddOrMust_3 : decode cX5_readAddOrMust 3 = .ok (.invokevirtual 63, 3) := by decide +kernel
theorem dX5_readAddOrMust_6 : decode cX5_readAddOrMust 6 = .ok (.iload_n 1, 1) := by decide +kernel
theorem dX5_readAddOrMust_7 : decode cX5_readAddOrMust 7 = .ok (.bipush 13, 2) := by decide +kernel
theorem dX5_readAddOrMust_9 : decode cX5_readAddOrMust 9 = .ok (.if_icmp .ne 15, 3) := by decide +kernel
theorem dX5_readAddOrMust_12 : decode cX5_readAddOrMust 12 = .ok (.aload_n 0, 1) := by decide +kernel
theorem dX5_readAddOrMust_13 : decode cX5_readAddOrMust 13 = .ok (.bipush 14, 2) := by decide +kernel
theorem dX5_readAddOrMust_15 : decode cX5_readAddOrMust 15 = .ok (.invokevirtual 67, 3) := by decide +kernel
theorem dX5_readAddOrMust_18 : decode cX5_readAddOrMust 18 = .ok (.aload_n 0, 1) := by decide +kernel
theorem dX5_readAddOrMust_19 : decode cX5_readAddOrMust 19 = .ok (.iconst 0, 1) := by decide +kernel
theorem dX5_readAddOrMust_20 : decode cX5_readAddOrMust 20 = .ok (.iconst 0, 1) := by decide +kernel
theorem dX5_readAddOrMust_21 : decode cX5_readAddOrMust 21 = .ok (.invokevirtual 63, 3) := by decide +kernel
theorem dX5_readAddOrMust_24 : decode cX5_readAddOrMust 24 = .ok (.aload_n 0, 1) := by decide +kernel
theorem dX5_readAddOrMust_25 : decode cX5_readAddOrMust 25 = .ok (.iload_n 1, 1) := by decide +kernel
theorem dX5_readAddOrMust_26 : decode cX5_readAddOrMust 26 = .ok (.iconst 0, 1) := by decide +kernel
theorem dX5_readAddOrMust_27 : decode cX5_readAddOrMust 27 = .ok (.invokevirtual 70, 3) := by decide +kernel
theorem dX5_readAddOrMust_30 : decode cX5_readAddOrMust 30 = .ok (.return_, 1) := by decide +kernel
theorem dX5_readLet_0 : decode cX5_readLet 0 = .ok (.aload_n 0, 1) := by decide +kernel
theorem dX5_readLet_1 : decode cX5_readLet 1 = .ok (.getfield 19, 3) := by decide +kernel
theorem dX5_readLet_4 : decode cX5_readLet 4 = .ok (.getfield 44, 3) := by decide +kernel
theorem dX5_readLet_7 : decode cX5_readLet 7 = .ok (.iconst 3, 1) := by decide +kernel
theorem dX5_readLet_8 : decode cX5_readLet 8 = .ok (.if_icmp .eq 11, 3) := by decide +kernel
theorem dX5_readLet_11 : decode cX5_readLet 11 = .ok (.aload_n 0, 1) := by decide +kernel
theorem dX5_readLet_12 : decode cX5_readLet 12 = .ok (.iconst 1, 1) := by decide +kernel
theorem dX5_readLet_13 : decode cX5_readLet 13 = .ok (.invokevirtual 47, 3) := by decide +kernel
theorem dX5_readLet_16 : decode cX5_readLet 16 = .ok (.goto 93, 3) := by decide +kernel
theorem dX5_readLet_19 : decode cX5_readLet 19 = .ok (.aload_n 0, 1) := by decide +kernel
theorem dX5_readLet_20 : decode cX5_readLet 20 = .ok (.invokevirtual 73, 3) := by decide +kernel
theorem dX5_readLet_23 : decode cX5_readLet 23 = .ok (.iconst (-1), 1) := by decide +kernel
theorem dX5_readLet_24 : decode cX5_readLet 24 = .ok (.if_icmp .eq 11, 3) := by decide +kernel
theorem dX5_readLet_27 : decode cX5_readLet 27 = .ok (.aload_n 0, 1) := by decide +kernel
theorem dX5_readLet_28 : decode cX5_readLet 28 = .ok (.iconst 3, 1) := by decide +kernel
theorem dX5_readLet_29 : decode cX5_readLet 29 = .ok (.invokevirtual 47, 3) := by decide +kernel
theorem dX5_readLet_32 : decode cX5_readLet 32 = .ok (.goto 77, 3) := by decide +kernel
theorem dX5_readLet_35 : decode cX5_readLet 35 = .ok (.aload_n 0, 1) := by decide +kernel
theorem dX5_readLet_36 : decode cX5_readLet 36 = .ok (.getfield 36, 3) := by decide +kernel
theorem dX5_readLet_39 : decode cX5_readLet 39 = .ok (.bipush 8, 2) := by decide +kernel
theorem dX5_readLet_41 : decode cX5_readLet 41 = .ok (.if_icmp .lt 11, 3) := by decide +kernel
theorem dX5_readLet_44 : decode cX5_readLet 44 = .ok (.aload_n 0, 1) := by decide +kernel
theorem dX5_readLet_45 : decode cX5_readLet 45 = .ok (.iconst 5, 1) := by decide +kernel
theorem dX5_readLet_46 : decode cX5_readLet 46 = .ok (.invokevirtual 47, 3) := by decide +kernel
theorem dX5_readLet_49 : decode cX5_readLet 49 = .ok (.goto 60, 3) := by decide +kernel
theorem dX5_readLet_52 : decode cX5_readLet 52 = .ok (.aload_n 0, 1) := by decide +kernel
theorem dX5_readLet_53 : decode cX5_readLet 53 = .ok (.getfield 19, 3) := by decide +kernel
theorem dX5_readLet_56 : decode cX5_readLet 56 = .ok (.getfield 77, 3) := by decide +kernel
theorem dX5_readLet_59 : decode cX5_readLet 59 = .ok (.lstore_n 1, 1) := by decide +kernel
theorem dX5_readLet_60 : decode cX5_readLet 60 = .ok (.aload_n 0, 1) := by decide +kernel
theorem dX5_readLet_61 : decode cX5_readLet 61 = .ok (.getfield 19, 3) := by decide +kernel
theorem dX5_readLet_64 : decode cX5_readLet 64 = .ok (.invokevirtual 51, 3) := by decide +kernel
theorem dX5_readLet_67 : decode cX5_readLet 67 = .ok (.aload_n 0, 1) := by decide +kernel
theorem dX5_readLet_68 : decode cX5_readLet 68 = .ok (.bipush 7, 2) := by decide +kernel
theorem dX5_readLet_70 : decode cX5_readLet 70 = .ok (.invokevirtual 67, 3) := by decide +kernel
theorem dX5_readLet_73 : decode cX5_readLet 73 = .ok (.aload_n 0, 1) := by decide +kernel
theorem dX5_readLet_74 : decode cX5_readLet 74 = .ok (.iconst 0, 1) := by decide +kernel
theorem dX5_readLet_75 : decode cX5_readLet 75 = .ok (.iconst 0, 1) := by decide +kernel
theorem dX5_readLet_76 : decode cX5_readLet 76 = .ok (.invokevirtual 63, 3) := by decide +kernel
theorem dX5_readLet_79 : decode cX5_readLet 79 = .ok (.aload_n 0, 1) := by decide +kernel
theorem dX5_readLet_80 : decode cX5_readLet 80 = .ok (.bipush 12, 2) := by decide +kernel
theorem dX5_readLet_82 : decode cX5_readLet 82 = .ok (.aload_n 0, 1) := by decide +kernel
theorem dX5_readLet_83 : decode cX5_readLet 83 = .ok (.getfield 36, 3) := by decide +kernel
theorem dX5_readLet_86 : decode cX5_readLet 86 = .ok (.invokevirtual 70, 3) := by decide +kernel
theorem dX5_readLet_89 : decode cX5_readLet 89 = .ok (.aload_n 0, 1) := by decide +kernel
theorem dX5_readLet_90 : decode cX5_readLet 90 = .ok (.getfield 9, 3) := by decide +kernel
theorem dX5_readLet_93 : decode cX5_readLet 93 = .ok (.aload_n 0, 1) := by decide +kernel
theorem dX5_readLet_94 : decode cX5_readLet 94 = .ok (.getfield 36, 3) := by decide +kernel
theorem dX5_readLet_97 : decode cX5_readLet 97 = .ok (.lload_n 1, 1) := by decide +kernel
theorem dX5_readLet_98 : decode cX5_readLet 98 = .ok (.lastore, 1) := by decide +kernel
theorem dX5_readLet_99 : decode cX5_readLet 99 = .ok (.aload_n 0, 1) := by decide +kernel
theorem dX5_readLet_100 : decode cX5_readLet 100 = .ok (.dup, 1) := by decide +kernel
theorem dX5_readLet_101 : decode cX5_readLet 101 = .ok (.getfield 36, 3) := by decide +kernel
theorem dX5_readLet_104 : decode cX5_readLet 104 = .ok (.iconst 1, 1) := by decide +kernel
theorem dX5_readLet_105 : decode cX5_readLet 105 = .ok (.iadd, 1) := by decide +kernel
theorem dX5_readLet_106 : decode cX5_readLet 106 = .ok (.putfield 36, 3) := by decide +kernel
theorem dX5_readLet_109 : decode cX5_readLet 109 = .ok (.return_, 1) := by decide +kernel
theorem dX5_readBonus_0 : decode cX5_readBonus 0 = .ok (.aload_n 0, 1) := by decide +kernel
theorem dX5_readBonus_1 : decode cX5_readBonus 1 = .ok (.getfield 19, 3) := by decide +kernel
theorem dX5_readBonus_4 : decode cX5_readBonus 4 = .ok (.getfield 44, 3) := by decide +kernel
theorem dX5_readBonus_7 : decode cX5_readBonus 7 = .ok (.iconst 2, 1) := by decide +kernel
theorem dX5_readBonus_8 : decode cX5_readBonus 8 = .ok (.if_icmp .eq 9, 3) := by decide +kernel
theorem dX5_readBonus_11 : decode cX5_readBonus 11 = .ok (.aload_n 0, 1) := by decide +kernel
theorem dX5_readBonus_12 : decode cX5_readBonus 12 = .ok (.iconst 1, 1) := by decide +kernel
theorem dX5_readBonus_13 : decode cX5_readBonus 13 = .ok (.invokevirtual 47, 3) := by decide +kernel
theorem dX5_readBonus_16 : decode cX5_readBonus 16 = .ok (.return_, 1) := by decide +kernel
theorem dX5_readBonus_17 : decode cX5_readBonus 17 = .ok (.aload_n 0, 1) := by decide +kernel
theorem dX5_readBonus_18 : decode cX5_readBonus 18 = .ok (.getfield 19, 3) := by decide +kernel
theorem dX5_readBonus_21 : decode cX5_readBonus 21 = .ok (.getfield 81, 3) := by decide +kernel
theorem dX5_readBonus_24 : decode cX5_readBonus 24 = .ok (.istore_n 1, 1) := by decide +kernel
theorem dX5_readBonus_25 : decode cX5_readBonus 25 = .ok (.aload_n 0, 1) := by decide +kernel
theorem dX5_readBonus_26 : decode cX5_readBonus 26 = .ok (.getfield 19, 3) := by decide +kernel
theorem dX5_readBonus_29 : decode cX5_readBonus 29 = .ok (.invokevirtual 51, 3) := by decide +kernel
theorem dX5_readBonus_32 : decode cX5_readBonus 32 = .ok (.aload_n 0, 1) := by decide +kernel
theorem dX5_readBonus_33 : decode cX5_readBonus 33 = .ok (.bipush 14, 2) := by decide +kernel
theorem dX5_readBonus_35 : decode cX5_readBonus 35 = .ok (.invokevirtual 67, 3) := by decide +kernel
theorem dX5_readBonus_38 : decode cX5_readBonus 38 = .ok (.aload_n 0, 1) := by decide +kernel
theorem dX5_readBonus_39 : decode cX5_readBonus 39 = .ok (.iconst 0, 1) := by decide +kernel
theorem dX5_readBonus_40 : decode cX5_readBonus 40 = .ok (.iconst 0, 1) := by decide +kernel
theorem dX5_readBonus_41 : decode cX5_readBonus 41 = .ok (.invokevirtual 63, 3) := by decide +kernel
theorem dX5_readBonus_44 : decode cX5_readBonus 44 = .ok (.aload_n 0, 1) := by decide +kernel
theorem dX5_readBonus_45 : decode cX5_readBonus 45 = .ok (.bipush 16, 2) := by decide +kernel
theorem dX5_readBonus_47 : decode cX5_readBonus 47 = .ok (.iload_n 1, 1) := by decide +kernel
theorem dX5_readBonus_48 : decode cX5_readBonus 48 = .ok (.invokevirtual 70, 3) := by decide +kernel
theorem dX5_readBonus_51 : decode cX5_readBonus 51 = .ok (.return_, 1) := by decide +kernel
theorem dX5_endLine_0 : decode cX5_endLine 0 = .ok (.aload_n 0, 1) := by decide +kernel
theorem dX5_endLine_1 : decode cX5_endLine 1 = .ok (.bipush 11, 2) := by decide +kernel
theorem dX5_endLine_3 : decode cX5_endLine 3 = .ok (.invokevirtual 67, 3) := by decide +kernel
theorem dX5_endLine_6 : decode cX5_endLine 6 = .ok (.aload_n 0, 1) := by decide +kernel
theorem dX5_endLine_7 : decode cX5_endLine 7 = .ok (.iload_n 1, 1) := by decide +kernel
theorem dX5_endLine_8 : decode cX5_endLine 8 = .ok (.iload_n 2, 1) := by decide +kernel
theorem dX5_endLine_9 : decode cX5_endLine 9 = .ok (.invokevirtual 84, 3) := by decide +kernel
theorem dX5_endLine_12 : decode cX5_endLine 12 = .ok (.return_, 1) := by decide +kernel
theorem dX5_readLevel_0 : decode cX5_readLevel 0 = .ok (.iload_n 1, 1) := by decide +kernel
theorem dX5_readLevel_1 : decode cX5_readLevel 1 = .ok (.iconst 4, 1) := by decide +kernel
theorem dX5_readLevel_2 : decode cX5_readLevel 2 = .ok (.if_icmp .lt 9, 3) := by decide +kernel
theorem dX5_readLevel_5 : decode cX5_readLevel 5 = .ok (.aload_n 0, 1) := by decide +kernel
theorem dX5_readLevel_6 : decode cX5_readLevel 6 = .ok (.iload_n 2, 1) := by decide +kernel
theorem dX5_readLevel_7 : decode cX5_readLevel 7 = .ok (.invokevirtual 87, 3) := by decide +kernel
theorem dX5_readLevel_10 : decode cX5_readLevel 10 = .ok (.return_, 1) := by decide +kernel
theorem dX5_readLevel_11 : decode cX5_readLevel 11 = .ok (.aload_n 0, 1) := by decide +kernel
theorem dX5_readLevel_12 : decode cX5_readLevel 12 = .ok (.iload_n 1, 1) := by decide +kernel
theorem dX5_readLevel_13 : decode cX5_readLevel 13 = .ok (.iconst 1, 1) := by decide +kernel
theorem dX5_readLevel_14 : decode cX5_readLevel 14 = .ok (.iadd, 1) := by decide +kernel
theorem dX5_readLevel_15 : decode cX5_readLevel 15 = .ok (.iload_n 2, 1) := by decide +kernel
theorem dX5_readLevel_16 : decode cX5_readLevel 16 = .ok (.invokevirtual 63, 3) := by decide +kernel
theorem dX5_readLevel_19 : decode cX5_readLevel 19 = .ok (.iload_n 1, 1) := by decide +kernel
theorem dX5_readLevel_20 : decode cX5_readLevel 20 = .ok (.iconst 1, 1) := by decide +kernel
theorem dX5_readLevel_21 : decode cX5_readLevel 21 = .ok (.if_icmp .ne 7, 3) := by decide +kernel
theorem dX5_readLevel_24 : decode cX5_readLevel 24 = .ok (.iconst 1, 1) := by decide +kernel
theorem dX5_readLevel_25 : decode cX5_readLevel 25 = .ok (.goto 6, 3) := by decide +kernel
theorem dX5_readLevel_28 : decode cX5_readLevel 28 = .ok (.sipush 1000, 3) := by decide +kernel
theorem dX5_readLevel_31 : decode cX5_readLevel 31 = .ok (.istore_n 3, 1) := by decide +kernel
theorem dX5_readLevel_32 : decode cX5_readLevel 32 = .ok (.iconst 0, 1) := by decide +kernel
theorem dX5_readLevel_33 : decode cX5_readLevel 33 = .ok (.istore 4, 2) := by decide +kernel
theorem dX5_readLevel_35 : decode cX5_readLevel 35 = .ok (.iload 4, 2) := by decide +kernel
theorem dX5_readLevel_37 : decode cX5_readLevel 37 = .ok (.iload_n 3, 1) := by decide +kernel
theorem dX5_readLevel_38 : decode cX5_readLevel 38 = .ok (.if_icmp .ge 61, 3) := by decide +kernel
theorem dX5_readLevel_41 : decode cX5_readLevel 41 = .ok (.aload_n 0, 1) := by decide +kernel
theorem dX5_readLevel_42 : decode cX5_readLevel 42 = .ok (.getfield 33, 3) := by decide +kernel
theorem dX5_readLevel_45 : decode cX5_readLevel 45 = .ok (.ifCond .ne 54, 3) := by decide +kernel
theorem dX5_readLevel_48 : decode cX5_readLevel 48 = .ok (.aload_n 0, 1) := by decide +kernel
theorem dX5_readLevel_49 : decode cX5_readLevel 49 = .ok (.getfield 19, 3) := by decide +kernel
theorem dX5_readLevel_52 : decode cX5_readLevel 52 = .ok (.getfield 44, 3) := by decide +kernel
theorem dX5_readLevel_55 : decode cX5_readLevel 55 = .ok (.invokestatic 90, 3) := by decide +kernel
theorem dX5_readLevel_58 : decode cX5_readLevel 58 = .ok (.iload_n 1, 1) := by decide +kernel
theorem dX5_readLevel_59 : decode cX5_readLevel 59 = .ok (.if_icmp .ne 40, 3) := by decide +kernel
theorem dX5_readLevel_62 : decode cX5_readLevel 62 = .ok (.aload_n 0, 1) := by decide +kernel
theorem dX5_readLevel_63 : decode cX5_readLevel 63 = .ok (.getfield 19, 3) := by decide +kernel
theorem dX5_readLevel_66 : decode cX5_readLevel 66 = .ok (.getfield 44, 3) := by decide +kernel
theorem dX5_readLevel_69 : decode cX5_readLevel 69 = .ok (.istore 5, 2) := by decide +kernel
theorem dX5_readLevel_71 : decode cX5_readLevel 71 = .ok (.aload_n 0, 1) := by decide +kernel
theorem dX5_readLevel_72 : decode cX5_readLevel 72 = .ok (.getfield 19, 3) := by decide +kernel
theorem dX5_readLevel_75 : decode cX5_readLevel 75 = .ok (.invokevirtual 51, 3) := by decide +kernel
theorem dX5_readLevel_78 : decode cX5_readLevel 78 = .ok (.aload_n 0, 1) := by decide +kernel
theorem dX5_readLevel_79 : decode cX5_readLevel 79 = .ok (.iload_n 1, 1) := by decide +kernel
theorem dX5_readLevel_80 : decode cX5_readLevel 80 = .ok (.iconst 1, 1) := by decide +kernel
theorem dX5_readLevel_81 : decode cX5_readLevel 81 = .ok (.iadd, 1) := by decide +kernel
theorem dX5_readLevel_82 : decode cX5_readLevel 82 = .ok (.iload_n 2, 1) := by decide +kernel
theorem dX5_readLevel_83 : decode cX5_readLevel 83 = .ok (.invokevirtual 63, 3) := by decide +kernel
theorem dX5_readLevel_86 : decode cX5_readLevel 86 = .ok (.aload_n 0, 1) := by decide +kernel
theorem dX5_readLevel_87 : decode cX5_readLevel 87 = .ok (.iload 5, 2) := by decide +kernel
theorem dX5_readLevel_89 : decode cX5_readLevel 89 = .ok (.iconst 0, 1) := by decide +kernel
theorem dX5_readLevel_90 : decode cX5_readLevel 90 = .ok (.invokevirtual 84, 3) := by decide +kernel
theorem dX5_readLevel_93 : decode cX5_readLevel 93 = .ok (.iinc 4 1, 3) := by decide +kernel
theorem dX5_readLevel_96 : decode cX5_readLevel 96 = .ok (.goto (-61), 3) := by decide +kernel
theorem dX5_readLevel_99 : decode cX5_readLevel 99 = .ok (.return_, 1) := by decide +kernel
theorem dX5_levelOf_0 : decode cX5_levelOf 0 = .ok (.iload_n 0, 1) := by decide +kernel
theorem dX5_levelOf_1 : decode cX5_levelOf 1 = .ok (.tableswitch 75 6 18 #[69, 69, 71, 71, 73, 75, 75, 75, 75, 75, 75, 67, 67], 67) := by decide +kernel
theorem dX5_levelOf_68 : decode cX5_levelOf 68 = .ok (.iconst 0, 1) := by decide +kernel
theorem dX5_levelOf_69 : decode cX5_levelOf 69 = .ok (.ireturn, 1) := by decide +kernel
theorem dX5_levelOf_70 : decode cX5_levelOf 70 = .ok (.iconst 1, 1) := by decide +kernel
theorem dX5_levelOf_71 : decode cX5_levelOf 71 = .ok (.ireturn, 1) := by decide +kernel
theorem dX5_levelOf_72 : decode cX5_levelOf 72 = .ok (.iconst 2, 1) := by decide +kernel
theorem dX5_levelOf_73 : decode cX5_levelOf 73 = .ok (.ireturn, 1) := by decide +kernel
theorem dX5_levelOf_74 : decode cX5_levelOf 74 = .ok (.iconst 3, 1) := by decide +kernel
theorem dX5_levelOf_75 : decode cX5_levelOf 75 = .ok (.ireturn, 1) := by decide +kernel
theorem dX5_levelOf_76 : decode cX5_levelOf 76 = .ok (.iconst 4, 1) := by decide +kernel
theorem dX5_levelOf_77 : decode cX5_levelOf 77 = .ok (.ireturn, 1) := by decide +kernel
theorem dX5_readPart_0 : decode cX5_readPart 0 = .ok (.aload_n 0, 1) := by decide +kernel
theorem dX5_readPart_1 : decode cX5_readPart 1 = .ok (.getfield 33, 3) := by decide +kernel
theorem dX5_readPart_4 : decode cX5_readPart 4 = .ok (.ifCond .eq 4, 3) := by decide +kernel
theorem dX5_readPart_7 : decode cX5_readPart 7 = .ok (.return_, 1) := by decide +kernel
theorem dX5_readPart_8 : decode cX5_readPart 8 = .ok (.aload_n 0, 1) := by decide +kernel
theorem dX5_readPart_9 : decode cX5_readPart 9 = .ok (.getfield 19, 3) := by decide +kernel
theorem dX5_readPart_12 : decode cX5_readPart 12 = .ok (.getfield 44, 3) := by decide +kernel
theorem dX5_readPart_15 : decode cX5_readPart 15 = .ok (.istore_n 2, 1) := by decide +kernel
theorem dX5_readPart_16 : decode cX5_readPart 16 = .ok (.iload_n 2, 1) := by decide +kernel
theorem dX5_readPart_17 : decode cX5_readPart 17 = .ok (.invokestatic 94, 3) := by decide +kernel
theorem dX5_readPart_20 : decode cX5_readPart 20 = .ok (.ifCond .ne 11, 3) := by decide +kernel
theorem dX5_readPart_23 : decode cX5_readPart 23 = .ok (.aload_n 0, 1) := by decide +kernel
theorem dX5_readPart_24 : decode cX5_readPart 24 = .ok (.iconst 1, 1) := by decide +kernel
theorem dX5_readPart_25 : decode cX5_readPart 25 = .ok (.invokevirtual 47, 3) := by decide +kernel
theorem dX5_readPart_28 : decode cX5_readPart 28 = .ok (.goto 155, 3) := by decide +kernel
theorem dX5_readPart_31 : decode cX5_readPart 31 = .ok (.iload_n 2, 1) := by decide +kernel
theorem dX5_readPart_32 : decode cX5_readPart 32 = .ok (.iconst 3, 1) := by decide +kernel
theorem dX5_readPart_33 : decode cX5_readPart 33 = .ok (.if_icmp .ne 19, 3) := by decide +kernel
theorem dX5_readPart_36 : decode cX5_readPart 36 = .ok (.aload_n 0, 1) := by decide +kernel
theorem dX5_readPart_37 : decode cX5_readPart 37 = .ok (.invokevirtual 73, 3) := by decide +kernel
theorem dX5_readPart_40 : decode cX5_readPart 40 = .ok (.iconst (-1), 1) := by decide +kernel
theorem dX5_readPart_41 : decode cX5_readPart 41 = .ok (.if_icmp .ne 11, 3) := by decide +kernel
theorem dX5_readPart_44 : decode cX5_readPart 44 = .ok (.aload_n 0, 1) := by decide +kernel
theorem dX5_readPart_45 : decode cX5_readPart 45 = .ok (.iconst 2, 1) := by decide +kernel
theorem dX5_readPart_46 : decode cX5_readPart 46 = .ok (.invokevirtual 47, 3) := by decide +kernel
theorem dX5_readPart_49 : decode cX5_readPart 49 = .ok (.goto 134, 3) := by decide +kernel
theorem dX5_readPart_52 : decode cX5_readPart 52 = .ok (.iload_n 1, 1) := by decide +kernel
theorem dX5_readPart_53 : decode cX5_readPart 53 = .ok (.iconst 4, 1) := by decide +kernel
theorem dX5_readPart_54 : decode cX5_readPart 54 = .ok (.if_icmp .lt 11, 3) := by decide +kernel
theorem dX5_readPart_57 : decode cX5_readPart 57 = .ok (.aload_n 0, 1) := by decide +kernel
theorem dX5_readPart_58 : decode cX5_readPart 58 = .ok (.iconst 5, 1) := by decide +kernel
theorem dX5_readPart_59 : decode cX5_readPart 59 = .ok (.invokevirtual 47, 3) := by decide +kernel
theorem dX5_readPart_62 : decode cX5_readPart 62 = .ok (.goto 121, 3) := by decide +kernel
theorem dX5_readPart_65 : decode cX5_readPart 65 = .ok (.iload_n 2, 1) := by decide +kernel
theorem dX5_readPart_66 : decode cX5_readPart 66 = .ok (.bipush 26, 2) := by decide +kernel
theorem dX5_readPart_68 : decode cX5_readPart 68 = .ok (.if_icmp .ne 27, 3) := by decide +kernel
theorem dX5_readPart_71 : decode cX5_readPart 71 = .ok (.aload_n 0, 1) := by decide +kernel
theorem dX5_readPart_72 : decode cX5_readPart 72 = .ok (.getfield 19, 3) := by decide +kernel
theorem dX5_readPart_75 : decode cX5_readPart 75 = .ok (.invokevirtual 51, 3) := by decide +kernel
theorem dX5_readPart_78 : decode cX5_readPart 78 = .ok (.aload_n 0, 1) := by decide +kernel
theorem dX5_readPart_79 : decode cX5_readPart 79 = .ok (.iload_n 1, 1) := by decide +kernel
theorem dX5_readPart_80 : decode cX5_readPart 80 = .ok (.iconst 1, 1) := by decide +kernel
theorem dX5_readPart_81 : decode cX5_readPart 81 = .ok (.iadd, 1) := by decide +kernel
theorem dX5_readPart_82 : decode cX5_readPart 82 = .ok (.invokevirtual 87, 3) := by decide +kernel
theorem dX5_readPart_85 : decode cX5_readPart 85 = .ok (.aload_n 0, 1) := by decide +kernel
theorem dX5_readPart_86 : decode cX5_readPart 86 = .ok (.bipush 26, 2) := by decide +kernel
theorem dX5_readPart_88 : decode cX5_readPart 88 = .ok (.iconst 0, 1) := by decide +kernel
theorem dX5_readPart_89 : decode cX5_readPart 89 = .ok (.invokevirtual 84, 3) := by decide +kernel
theorem dX5_readPart_92 : decode cX5_readPart 92 = .ok (.goto 91, 3) := by decide +kernel
theorem dX5_readPart_95 : decode cX5_readPart 95 = .ok (.iload_n 2, 1) := by decide +kernel
theorem dX5_readPart_96 : decode cX5_readPart 96 = .ok (.iconst 4, 1) := by decide +kernel
theorem dX5_readPart_97 : decode cX5_readPart 97 = .ok (.if_icmp .ne 26, 3) := by decide +kernel
theorem dX5_readPart_100 : decode cX5_readPart 100 = .ok (.aload_n 0, 1) := by decide +kernel
theorem dX5_readPart_101 : decode cX5_readPart 101 = .ok (.getfield 19, 3) := by decide +kernel
theorem dX5_readPart_104 : decode cX5_readPart 104 = .ok (.invokevirtual 51, 3) := by decide +kernel
theorem dX5_readPart_107 : decode cX5_readPart 107 = .ok (.aload_n 0, 1) := by decide +kernel
theorem dX5_readPart_108 : decode cX5_readPart 108 = .ok (.iconst 0, 1) := by decide +kernel
theorem dX5_readPart_109 : decode cX5_readPart 109 = .ok (.iload_n 1, 1) := by decide +kernel
theorem dX5_readPart_110 : decode cX5_readPart 110 = .ok (.iconst 1, 1) := by decide +kernel
theorem dX5_readPart_111 : decode cX5_readPart 111 = .ok (.iadd, 1) := by decide +kernel
theorem dX5_readPart_112 : decode cX5_readPart 112 = .ok (.invokevirtual 63, 3) := by decide +kernel
theorem dX5_readPart_115 : decode cX5_readPart 115 = .ok (.aload_n 0, 1) := by decide +kernel
theorem dX5_readPart_116 : decode cX5_readPart 116 = .ok (.iconst 5, 1) := by decide +kernel
theorem dX5_readPart_117 : decode cX5_readPart 117 = .ok (.invokevirtual 67, 3) := by decide +kernel
theorem dX5_readPart_120 : decode cX5_readPart 120 = .ok (.goto 63, 3) := by decide +kernel
theorem dX5_readPart_123 : decode cX5_readPart 123 = .ok (.iload_n 2, 1) := by decide +kernel
theorem dX5_readPart_124 : decode cX5_readPart 124 = .ok (.bipush 19, 2) := by decide +kernel
theorem dX5_readPart_126 : decode cX5_readPart 126 = .ok (.if_icmp .ne 17, 3) := by decide +kernel
theorem dX5_readPart_129 : decode cX5_readPart 129 = .ok (.aload_n 0, 1) := by decide +kernel
theorem dX5_readPart_130 : decode cX5_readPart 130 = .ok (.getfield 19, 3) := by decide +kernel
theorem dX5_readPart_133 : decode cX5_readPart 133 = .ok (.invokevirtual 51, 3) := by decide +kernel
theorem dX5_readPart_136 : decode cX5_readPart 136 = .ok (.aload_n 0, 1) := by decide +kernel
theorem dX5_readPart_137 : decode cX5_readPart 137 = .ok (.invokevirtual 98, 3) := by decide +kernel
theorem dX5_readPart_140 : decode cX5_readPart 140 = .ok (.goto 43, 3) := by decide +kernel
theorem dX5_readPart_143 : decode cX5_readPart 143 = .ok (.aload_n 0, 1) := by decide +kernel
theorem dX5_readPart_144 : decode cX5_readPart 144 = .ok (.iload_n 2, 1) := by decide +kernel
theorem dX5_readPart_145 : decode cX5_readPart 145 = .ok (.iload_n 2, 1) := by decide +kernel
theorem dX5_readPart_146 : decode cX5_readPart 146 = .ok (.iconst 2, 1) := by decide +kernel
theorem dX5_readPart_147 : decode cX5_readPart 147 = .ok (.if_icmp .ne 13, 3) := by decide +kernel
theorem dX5_readPart_150 : decode cX5_readPart 150 = .ok (.aload_n 0, 1) := by decide +kernel
theorem dX5_readPart_151 : decode cX5_readPart 151 = .ok (.getfield 19, 3) := by decide +kernel
theorem dX5_readPart_154 : decode cX5_readPart 154 = .ok (.getfield 81, 3) := by decide +kernel
theorem dX5_readPart_157 : decode cX5_readPart 157 = .ok (.goto 16, 3) := by decide +kernel
theorem dX5_readPart_160 : decode cX5_readPart 160 = .ok (.iload_n 2, 1) := by decide +kernel
theorem dX5_readPart_161 : decode cX5_readPart 161 = .ok (.iconst 3, 1) := by decide +kernel
theorem dX5_readPart_162 : decode cX5_readPart 162 = .ok (.if_icmp .ne 10, 3) := by decide +kernel
theorem dX5_readPart_165 : decode cX5_readPart 165 = .ok (.aload_n 0, 1) := by decide +kernel
theorem dX5_readPart_166 : decode cX5_readPart 166 = .ok (.invokevirtual 73, 3) := by decide +kernel
theorem dX5_readPart_169 : decode cX5_readPart 169 = .ok (.goto 4, 3) := by decide +kernel
theorem dX5_readPart_172 : decode cX5_readPart 172 = .ok (.iconst 0, 1) := by decide +kernel
theorem dX5_readPart_173 : decode cX5_readPart 173 = .ok (.invokevirtual 84, 3) := by decide +kernel
theorem dX5_readPart_176 : decode cX5_readPart 176 = .ok (.aload_n 0, 1) := by decide +kernel
theorem dX5_readPart_177 : decode cX5_readPart 177 = .ok (.getfield 19, 3) := by decide +kernel
theorem dX5_readPart_180 : decode cX5_readPart 180 = .ok (.invokevirtual 51, 3) := by decide +kernel
theorem dX5_readPart_183 : decode cX5_readPart 183 = .ok (.return_, 1) := by decide +kernel
theorem dX5_readItem_0 : decode cX5_readItem 0 = .ok (.aload_n 0, 1) := by decide +kernel
theorem dX5_readItem_1 : decode cX5_readItem 1 = .ok (.getfield 19, 3) := by decide +kernel
theorem dX5_readItem_4 : decode cX5_readItem 4 = .ok (.getfield 44, 3) := by decide +kernel
theorem dX5_readItem_7 : decode cX5_readItem 7 = .ok (.iconst 2, 1) := by decide +kernel
theorem dX5_readItem_8 : decode cX5_readItem 8 = .ok (.if_icmp .eq 11, 3) := by decide +kernel
theorem dX5_readItem_11 : decode cX5_readItem 11 = .ok (.aload_n 0, 1) := by decide +kernel
theorem dX5_readItem_12 : decode cX5_readItem 12 = .ok (.iconst 1, 1) := by decide +kernel
theorem dX5_readItem_13 : decode cX5_readItem 13 = .ok (.invokevirtual 47, 3) := by decide +kernel
theorem dX5_readItem_16 : decode cX5_readItem 16 = .ok (.goto 43, 3) := by decide +kernel
theorem dX5_readItem_19 : decode cX5_readItem 19 = .ok (.aload_n 0, 1) := by decide +kernel
theorem dX5_readItem_20 : decode cX5_readItem 20 = .ok (.getfield 19, 3) := by decide +kernel
theorem dX5_readItem_23 : decode cX5_readItem 23 = .ok (.getfield 81, 3) := by decide +kernel
theorem dX5_readItem_26 : decode cX5_readItem 26 = .ok (.bipush 12, 2) := by decide +kernel
theorem dX5_readItem_28 : decode cX5_readItem 28 = .ok (.if_icmp .lt 11, 3) := by decide +kernel
theorem dX5_readItem_31 : decode cX5_readItem 31 = .ok (.aload_n 0, 1) := by decide +kernel
theorem dX5_readItem_32 : decode cX5_readItem 32 = .ok (.iconst 4, 1) := by decide +kernel
theorem dX5_readItem_33 : decode cX5_readItem 33 = .ok (.invokevirtual 47, 3) := by decide +kernel
theorem dX5_readItem_36 : decode cX5_readItem 36 = .ok (.goto 23, 3) := by decide +kernel
theorem dX5_readItem_39 : decode cX5_readItem 39 = .ok (.aload_n 0, 1) := by decide +kernel
theorem dX5_readItem_40 : decode cX5_readItem 40 = .ok (.bipush 19, 2) := by decide +kernel
theorem dX5_readItem_42 : decode cX5_readItem 42 = .ok (.aload_n 0, 1) := by decide +kernel
theorem dX5_readItem_43 : decode cX5_readItem 43 = .ok (.getfield 19, 3) := by decide +kernel
theorem dX5_readItem_46 : decode cX5_readItem 46 = .ok (.getfield 81, 3) := by decide +kernel
theorem dX5_readItem_49 : decode cX5_readItem 49 = .ok (.invokevirtual 84, 3) := by decide +kernel
theorem dX5_readItem_52 : decode cX5_readItem 52 = .ok (.aload_n 0, 1) := by decide +kernel
theorem dX5_readItem_53 : decode cX5_readItem 53 = .ok (.getfield 19, 3) := by decide +kernel
theorem dX5_readItem_56 : decode cX5_readItem 56 = .ok (.invokevirtual 51, 3) := by decide +kernel
theorem dX5_readItem_59 : decode cX5_readItem 59 = .ok (.return_, 1) := by decide +kernel
theorem dX5_canStartPart_0 : decode cX5_canStartPart 0 = .ok (.iload_n 0, 1) := by decide +kernel
theorem dX5_canStartPart_1 : decode cX5_canStartPart 1 = .ok (.iconst 2, 1) := by decide +kernel
theorem dX5_canStartPart_2 : decode cX5_canStartPart 2 = .ok (.if_icmp .eq 24, 3) := by decide +kernel
theorem dX5_canStartPart_5 : decode cX5_canStartPart 5 = .ok (.iload_n 0, 1) := by decide +kernel
theorem dX5_canStartPart_6 : decode cX5_canStartPart 6 = .ok (.iconst 3, 1) := by decide +kernel
theorem dX5_canStartPart_7 : decode cX5_canStartPart 7 = .ok (.if_icmp .eq 19, 3) := by decide +kernel
theorem dX5_canStartPart_10 : decode cX5_canStartPart 10 = .ok (.iload_n 0, 1) := by decide +kernel
theorem dX5_canStartPart_11 : decode cX5_canStartPart 11 = .ok (.iconst 4, 1) := by decide +kernel
theorem dX5_canStartPart_12 : decode cX5_canStartPart 12 = .ok (.if_icmp .eq 14, 3) := by decide +kernel
theorem dX5_canStartPart_15 : decode cX5_canStartPart 15 = .ok (.iload_n 0, 1) := by decide +kernel
theorem dX5_canStartPart_16 : decode cX5_canStartPart 16 = .ok (.bipush 19, 2) := by decide +kernel
theorem dX5_canStartPart_18 : decode cX5_canStartPart 18 = .ok (.bipush 26, 2) := by decide +kernel
theorem dX5_canStartPart_20 : decode cX5_canStartPart 20 = .ok (.invokestatic 101, 3) := by decide +kernel
theorem dX5_canStartPart_23 : decode cX5_canStartPart 23 = .ok (.ifCond .eq 7, 3) := by decide +kernel
theorem dX5_canStartPart_26 : decode cX5_canStartPart 26 = .ok (.iconst 1, 1) := by decide +kernel
theorem dX5_canStartPart_27 : decode cX5_canStartPart 27 = .ok (.goto 4, 3) := by decide +kernel
theorem dX5_canStartPart_30 : decode cX5_canStartPart 30 = .ok (.iconst 0, 1) := by decide +kernel
theorem dX5_canStartPart_31 : decode cX5_canStartPart 31 = .ok (.ireturn, 1) := by decide +kernel
theorem dX5_nameIndex_0 : decode cX5_nameIndex 0 = .ok (.iconst 0, 1) := by decide +kernel
theorem dX5_nameIndex_1 : decode cX5_nameIndex 1 = .ok (.istore_n 1, 1) := by decide +kernel
theorem dX5_nameIndex_2 : decode cX5_nameIndex 2 = .ok (.iload_n 1, 1) := by decide +kernel
theorem dX5_nameIndex_3 : decode cX5_nameIndex 3 = .ok (.aload_n 0, 1) := by decide +kernel
theorem dX5_nameIndex_4 : decode cX5_nameIndex 4 = .ok (.getfield 36, 3) := by decide +kernel
theorem dX5_nameIndex_7 : decode cX5_nameIndex 7 = .ok (.if_icmp .ge 28, 3) := by decide +kernel
theorem dX5_nameIndex_10 : decode cX5_nameIndex 10 = .ok (.aload_n 0, 1) := by decide +kernel
theorem dX5_nameIndex_11 : decode cX5_nameIndex 11 = .ok (.getfield 9, 3) := by decide +kernel
theorem dX5_nameIndex_14 : decode cX5_nameIndex 14 = .ok (.iload_n 1, 1) := by decide +kernel
theorem dX5_nameIndex_15 : decode cX5_nameIndex 15 = .ok (.laload, 1) := by decide +kernel
theorem dX5_nameIndex_16 : decode cX5_nameIndex 16 = .ok (.aload_n 0, 1) := by decide +kernel
theorem dX5_nameIndex_17 : decode cX5_nameIndex 17 = .ok (.getfield 19, 3) := by decide +kernel
theorem dX5_nameIndex_20 : decode cX5_nameIndex 20 = .ok (.getfield 77, 3) := by decide +kernel
theorem dX5_nameIndex_23 : decode cX5_nameIndex 23 = .ok (.lcmp, 1) := by decide +kernel
theorem dX5_nameIndex_24 : decode cX5_nameIndex 24 = .ok (.ifCond .ne 5, 3) := by decide +kernel
theorem dX5_nameIndex_27 : decode cX5_nameIndex 27 = .ok (.iload_n 1, 1) := by decide +kernel
theorem dX5_nameIndex_28 : decode cX5_nameIndex 28 = .ok (.ireturn, 1) := by decide +kernel
theorem dX5_nameIndex_29 : decode cX5_nameIndex 29 = .ok (.iinc 1 1, 3) := by decide +kernel
theorem dX5_nameIndex_32 : decode cX5_nameIndex 32 = .ok (.goto (-30), 3) := by decide +kernel
theorem dX5_nameIndex_35 : decode cX5_nameIndex 35 = .ok (.iconst (-1), 1) := by decide +kernel
theorem dX5_nameIndex_36 : decode cX5_nameIndex 36 = .ok (.ireturn, 1) := by decide +kernel
theorem dX5_pass_0 : decode cX5_pass 0 = .ok (.aload_n 0, 1) := by decide +kernel
theorem dX5_pass_1 : decode cX5_pass 1 = .ok (.getfield 33, 3) := by decide +kernel
theorem dX5_pass_4 : decode cX5_pass 4 = .ok (.ifCond .eq 4, 3) := by decide +kernel
theorem dX5_pass_7 : decode cX5_pass 7 = .ok (.return_, 1) := by decide +kernel
theorem dX5_pass_8 : decode cX5_pass 8 = .ok (.aload_n 0, 1) := by decide +kernel
theorem dX5_pass_9 : decode cX5_pass 9 = .ok (.getfield 19, 3) := by decide +kernel
theorem dX5_pass_12 : decode cX5_pass 12 = .ok (.getfield 44, 3) := by decide +kernel
theorem dX5_pass_15 : decode cX5_pass 15 = .ok (.iload_n 1, 1) := by decide +kernel
theorem dX5_pass_16 : decode cX5_pass 16 = .ok (.if_icmp .ne 13, 3) := by decide +kernel
theorem dX5_pass_19 : decode cX5_pass 19 = .ok (.aload_n 0, 1) := by decide +kernel
theorem dX5_pass_20 : decode cX5_pass 20 = .ok (.getfield 19, 3) := by decide +kernel
theorem dX5_pass_23 : decode cX5_pass 23 = .ok (.invokevirtual 51, 3) := by decide +kernel
theorem dX5_pass_26 : decode cX5_pass 26 = .ok (.goto 8, 3) := by decide +kernel
theorem dX5_pass_29 : decode cX5_pass 29 = .ok (.aload_n 0, 1) := by decide +kernel
theorem dX5_pass_30 : decode cX5_pass 30 = .ok (.iconst 1, 1) := by decide +kernel
theorem dX5_pass_31 : decode cX5_pass 31 = .ok (.invokevirtual 47, 3) := by decide +kernel
theorem dX5_pass_34 : decode cX5_pass 34 = .ok (.return_, 1) := by decide +kernel
theorem dX5_fail_0 : decode cX5_fail 0 = .ok (.aload_n 0, 1) := by decide +kernel
theorem dX5_fail_1 : decode cX5_fail 1 = .ok (.getfield 33, 3) := by decide +kernel
theorem dX5_fail_4 : decode cX5_fail 4 = .ok (.ifCond .ne 19, 3) := by decide +kernel
theorem dX5_fail_7 : decode cX5_fail 7 = .ok (.aload_n 0, 1) := by decide +kernel
theorem dX5_fail_8 : decode cX5_fail 8 = .ok (.iload_n 1, 1) := by decide +kernel
theorem dX5_fail_9 : decode cX5_fail 9 = .ok (.bipush 16, 2) := by decide +kernel
theorem dX5_fail_11 : decode cX5_fail 11 = .ok (.aload_n 0, 1) := by decide +kernel
theorem dX5_fail_12 : decode cX5_fail 12 = .ok (.getfield 19, 3) := by decide +kernel
theorem dX5_fail_15 : decode cX5_fail 15 = .ok (.getfield 105, 3) := by decide +kernel
theorem dX5_fail_18 : decode cX5_fail 18 = .ok (.imul, 1) := by decide +kernel
theorem dX5_fail_19 : decode cX5_fail 19 = .ok (.iadd, 1) := by decide +kernel
theorem dX5_fail_20 : decode cX5_fail 20 = .ok (.putfield 33, 3) := by decide +kernel
theorem dX5_fail_23 : decode cX5_fail 23 = .ok (.return_, 1) := by decide +kernel
theorem dX5_write_0 : decode cX5_write 0 = .ok (.aload_n 0, 1) := by decide +kernel
theorem dX5_write_1 : decode cX5_write 1 = .ok (.getfield 23, 3) := by decide +kernel
theorem dX5_write_4 : decode cX5_write 4 = .ok (.sipush 1000, 3) := by decide +kernel
theorem dX5_write_7 : decode cX5_write 7 = .ok (.if_icmp .ge 27, 3) := by decide +kernel
theorem dX5_write_10 : decode cX5_write 10 = .ok (.aload_n 0, 1) := by decide +kernel
theorem dX5_write_11 : decode cX5_write 11 = .ok (.getfield 15, 3) := by decide +kernel
theorem dX5_write_14 : decode cX5_write 14 = .ok (.aload_n 0, 1) := by decide +kernel
theorem dX5_write_15 : decode cX5_write 15 = .ok (.getfield 23, 3) := by decide +kernel
theorem dX5_write_18 : decode cX5_write 18 = .ok (.iload_n 2, 1) := by decide +kernel
theorem dX5_write_19 : decode cX5_write 19 = .ok (.iconst 5, 1) := by decide +kernel
theorem dX5_write_20 : decode cX5_write 20 = .ok (.ishl, 1) := by decide +kernel
theorem dX5_write_21 : decode cX5_write 21 = .ok (.iload_n 1, 1) := by decide +kernel
theorem dX5_write_22 : decode cX5_write 22 = .ok (.ior, 1) := by decide +kernel
theorem dX5_write_23 : decode cX5_write 23 = .ok (.iastore, 1) := by decide +kernel
theorem dX5_write_24 : decode cX5_write 24 = .ok (.aload_n 0, 1) := by decide +kernel
theorem dX5_write_25 : decode cX5_write 25 = .ok (.dup, 1) := by decide +kernel
theorem dX5_write_26 : decode cX5_write 26 = .ok (.getfield 23, 3) := by decide +kernel
theorem dX5_write_29 : decode cX5_write 29 = .ok (.iconst 1, 1) := by decide +kernel
theorem dX5_write_30 : decode cX5_write 30 = .ok (.iadd, 1) := by decide +kernel
theorem dX5_write_31 : decode cX5_write 31 = .ok (.putfield 23, 3) := by decide +kernel
theorem dX5_write_34 : decode cX5_write 34 = .ok (.return_, 1) := by decide +kernel
theorem dX6_init_0 : decode cX6_init 0 = .ok (.aload_n 0, 1) := by decide +kernel
theorem dX6_init_1 : decode cX6_init 1 = .ok (.invokespecial 3, 3) := by decide +kernel
theorem dX6_init_4 : decode cX6_init 4 = .ok (.aload_n 0, 1) := by decide +kernel
theorem dX6_init_5 : decode cX6_init 5 = .ok (.bipush 32, 2) := by decide +kernel
theorem dX6_init_7 : decode cX6_init 7 = .ok (.newarray .int, 2) := by decide +kernel
theorem dX6_init_9 : decode cX6_init 9 = .ok (.putfield 11, 3) := by decide +kernel
theorem dX6_init_12 : decode cX6_init 12 = .ok (.aload_n 0, 1) := by decide +kernel
theorem dX6_init_13 : decode cX6_init 13 = .ok (.bipush 8, 2) := by decide +kernel
theorem dX6_init_15 : decode cX6_init 15 = .ok (.newarray .int, 2) := by decide +kernel
theorem dX6_init_17 : decode cX6_init 17 = .ok (.putfield 15, 3) := by decide +kernel
theorem dX6_init_20 : decode cX6_init 20 = .ok (.aload_n 0, 1) := by decide +kernel
theorem dX6_init_21 : decode cX6_init 21 = .ok (.bipush 20, 2) := by decide +kernel
theorem dX6_init_23 : decode cX6_init 23 = .ok (.newarray .int, 2) := by decide +kernel
theorem dX6_init_25 : decode cX6_init 25 = .ok (.putfield 18, 3) := by decide +kernel
theorem dX6_init_28 : decode cX6_init 28 = .ok (.aload_n 0, 1) := by decide +kernel
theorem dX6_init_29 : decode cX6_init 29 = .ok (.aload_n 1, 1) := by decide +kernel
theorem dX6_init_30 : decode cX6_init 30 = .ok (.putfield 21, 3) := by decide +kernel
theorem dX6_init_33 : decode cX6_init 33 = .ok (.return_, 1) := by decide +kernel
theorem dX6_refresh_0 : decode cX6_refresh 0 = .ok (.aload_n 0, 1) := by decide +kernel
theorem dX6_refresh_1 : decode cX6_refresh 1 = .ok (.getfield 25, 3) := by decide +kernel
theorem dX6_refresh_4 : decode cX6_refresh 4 = .ok (.aload_n 0, 1) := by decide +kernel
theorem dX6_refresh_5 : decode cX6_refresh 5 = .ok (.getfield 21, 3) := by decide +kernel
theorem dX6_refresh_8 : decode cX6_refresh 8 = .ok (.getfield 29, 3) := by decide +kernel
theorem dX6_refresh_11 : decode cX6_refresh 11 = .ok (.if_icmp .ne 4, 3) := by decide +kernel
theorem dX6_refresh_14 : decode cX6_refresh 14 = .ok (.return_, 1) := by decide +kernel
theorem dX6_refresh_15 : decode cX6_refresh 15 = .ok (.aload_n 0, 1) := by decide +kernel
theorem dX6_refresh_16 : decode cX6_refresh 16 = .ok (.aload_n 0, 1) := by decide +kernel
theorem dX6_refresh_17 : decode cX6_refresh 17 = .ok (.getfield 21, 3) := by decide +kernel
theorem dX6_refresh_20 : decode cX6_refresh 20 = .ok (.getfield 29, 3) := by decide +kernel
theorem dX6_refresh_23 : decode cX6_refresh 23 = .ok (.putfield 25, 3) := by decide +kernel
theorem dX6_refresh_26 : decode cX6_refresh 26 = .ok (.aload_n 0, 1) := by decide +kernel
theorem dX6_refresh_27 : decode cX6_refresh 27 = .ok (.getfield 18, 3) := by decide +kernel
theorem dX6_refresh_30 : decode cX6_refresh 30 = .ok (.iconst 0, 1) := by decide +kernel
theorem dX6_refresh_31 : decode cX6_refresh 31 = .ok (.invokestatic 32, 3) := by decide +kernel
theorem dX6_refresh_34 : decode cX6_refresh 34 = .ok (.iconst 0, 1) := by decide +kernel
theorem dX6_refresh_35 : decode cX6_refresh 35 = .ok (.istore_n 1, 1) := by decide +kernel
theorem dX6_refresh_36 : decode cX6_refresh 36 = .ok (.iload_n 1, 1) := by decide +kernel
theorem dX6_refresh_37 : decode cX6_refresh 37 = .ok (.aload_n 0, 1) := by decide +kernel
theorem dX6_refresh_38 : decode cX6_refresh 38 = .ok (.getfield 21, 3) := by decide +kernel
theorem dX6_refresh_41 : decode cX6_refresh 41 = .ok (.getfield 38, 3) := by decide +kernel
theorem dX6_refresh_44 : decode cX6_refresh 44 = .ok (.if_icmp .ge 41, 3) := by decide +kernel
theorem dX6_refresh_47 : decode cX6_refresh 47 = .ok (.aload_n 0, 1) := by decide +kernel
theorem dX6_refresh_48 : decode cX6_refresh 48 = .ok (.getfield 21, 3) := by decide +kernel
theorem dX6_refresh_51 : decode cX6_refresh 51 = .ok (.aload_n 0, 1) := by decide +kernel
theorem dX6_refresh_52 : decode cX6_refresh 52 = .ok (.getfield 21, 3) := by decide +kernel
theorem dX6_refresh_55 : decode cX6_refresh 55 = .ok (.getfield 41, 3) := by decide +kernel
theorem dX6_refresh_58 : decode cX6_refresh 58 = .ok (.iload_n 1, 1) := by decide +kernel
theorem dX6_refresh_59 : decode cX6_refresh 59 = .ok (.aaload, 1) := by decide +kernel
theorem dX6_refresh_60 : decode cX6_refresh 60 = .ok (.invokevirtual 45, 3) := by decide +kernel
theorem dX6_refresh_63 : decode cX6_refresh 63 = .ok (.ifCond .eq 16, 3) := by decide +kernel
theorem dX6_refresh_66 : decode cX6_refresh 66 = .ok (.aload_n 0, 1) := by decide +kernel
theorem dX6_refresh_67 : decode cX6_refresh 67 = .ok (.aload_n 0, 1) := by decide +kernel
theorem dX6_refresh_68 : decode cX6_refresh 68 = .ok (.getfield 21, 3) := by decide +kernel
theorem dX6_refresh_71 : decode cX6_refresh 71 = .ok (.getfield 41, 3) := by decide +kernel
theorem dX6_refresh_74 : decode cX6_refresh 74 = .ok (.iload_n 1, 1) := by decide +kernel
theorem dX6_refresh_75 : decode cX6_refresh 75 = .ok (.aaload, 1) := by decide +kernel
theorem dX6_refresh_76 : decode cX6_refresh 76 = .ok (.invokevirtual 49, 3) := by decide +kernel
theorem dX6_refresh_79 : decode cX6_refresh 79 = .ok (.iinc 1 1, 3) := by decide +kernel
theorem dX6_refresh_82 : decode cX6_refresh 82 = .ok (.goto (-46), 3) := by decide +kernel
theorem dX6_refresh_85 : decode cX6_refresh 85 = .ok (.return_, 1) := by decide +kernel
theorem dX6_scoreVisit_0 : decode cX6_scoreVisit 0 = .ok (.aload_n 1, 1) := by decide +kernel
theorem dX6_scoreVisit_1 : decode cX6_scoreVisit 1 = .ok (.aload_n 0, 1) := by decide +kernel
theorem dX6_scoreVisit_2 : decode cX6_scoreVisit 2 = .ok (.getfield 18, 3) := by decide +kernel
theorem dX6_scoreVisit_5 : decode cX6_scoreVisit 5 = .ok (.aload_n 1, 1) := by decide +kernel
theorem dX6_scoreVisit_6 : decode cX6_scoreVisit 6 = .ok (.getfield 53, 3) := by decide +kernel
theorem dX6_scoreVisit_9 : decode cX6_scoreVisit 9 = .ok (.iaload, 1) := by decide +kernel
theorem dX6_scoreVisit_10 : decode cX6_scoreVisit 10 = .ok (.putfield 58, 3) := by decide +kernel
theorem dX6_scoreVisit_13 : decode cX6_scoreVisit 13 = .ok (.aload_n 1, 1) := by decide +kernel
theorem dX6_scoreVisit_14 : decode cX6_scoreVisit 14 = .ok (.aload_n 0, 1) := by decide +kernel
theorem dX6_scoreVisit_15 : decode cX6_scoreVisit 15 = .ok (.getfield 21, 3) := by decide +kernel
theorem dX6_scoreVisit_18 : decode cX6_scoreVisit 18 = .ok (.aload_n 1, 1) := by decide +kernel
theorem dX6_scoreVisit_19 : decode cX6_scoreVisit 19 = .ok (.invokevirtual 61, 3) := by decide +kernel
theorem dX6_scoreVisit_22 : decode cX6_scoreVisit 22 = .ok (.putfield 65, 3) := by decide +kernel
theorem dX6_scoreVisit_25 : decode cX6_scoreVisit 25 = .ok (.aload_n 0, 1) := by decide +kernel
theorem dX6_scoreVisit_26 : decode cX6_scoreVisit 26 = .ok (.aload_n 1, 1) := by decide +kernel
theorem dX6_scoreVisit_27 : decode cX6_scoreVisit 27 = .ok (.aload_n 1, 1) := by decide +kernel
theorem dX6_scoreVisit_28 : decode cX6_scoreVisit 28 = .ok (.getfield 68, 3) := by decide +kernel
theorem dX6_scoreVisit_31 : decode cX6_scoreVisit 31 = .ok (.invokevirtual 71, 3) := by decide +kernel
theorem dX6_scoreVisit_34 : decode cX6_scoreVisit 34 = .ok (.aload_n 1, 1) := by decide +kernel
theorem dX6_scoreVisit_35 : decode cX6_scoreVisit 35 = .ok (.aload_n 0, 1) := by decide +kernel
theorem dX6_scoreVisit_36 : decode cX6_scoreVisit 36 = .ok (.getfield 75, 3) := by decide +kernel
theorem dX6_scoreVisit_39 : decode cX6_scoreVisit 39 = .ok (.ifCond .eq 7, 3) := by decide +kernel
theorem dX6_scoreVisit_42 : decode cX6_scoreVisit 42 = .ok (.iconst 0, 1) := by decide +kernel
theorem dX6_scoreVisit_43 : decode cX6_scoreVisit 43 = .ok (.goto 17, 3) := by decide +kernel
theorem dX6_scoreVisit_46 : decode cX6_scoreVisit 46 = .ok (.iconst 0, 1) := by decide +kernel
theorem dX6_scoreVisit_47 : decode cX6_scoreVisit 47 = .ok (.sipush 1000, 3) := by decide +kernel
theorem dX6_scoreVisit_50 : decode cX6_scoreVisit 50 = .ok (.aload_n 0, 1) := by decide +kernel
theorem dX6_scoreVisit_51 : decode cX6_scoreVisit 51 = .ok (.getfield 79, 3) := by decide +kernel
theorem dX6_scoreVisit_54 : decode cX6_scoreVisit 54 = .ok (.invokestatic 82, 3) := by decide +kernel
theorem dX6_scoreVisit_57 : decode cX6_scoreVisit 57 = .ok (.invokestatic 88, 3) := by decide +kernel
theorem dX6_scoreVisit_60 : decode cX6_scoreVisit 60 = .ok (.putfield 91, 3) := by decide +kernel
theorem dX6_scoreVisit_63 : decode cX6_scoreVisit 63 = .ok (.aload_n 1, 1) := by decide +kernel
theorem dX6_scoreVisit_64 : decode cX6_scoreVisit 64 = .ok (.aload_n 0, 1) := by decide +kernel
theorem dX6_scoreVisit_65 : decode cX6_scoreVisit 65 = .ok (.getfield 75, 3) := by decide +kernel
theorem dX6_scoreVisit_68 : decode cX6_scoreVisit 68 = .ok (.ifCond .eq 7, 3) := by decide +kernel
theorem dX6_scoreVisit_71 : decode cX6_scoreVisit 71 = .ok (.iconst 0, 1) := by decide +kernel
theorem dX6_scoreVisit_72 : decode cX6_scoreVisit 72 = .ok (.goto 7, 3) := by decide +kernel
theorem dX6_scoreVisit_75 : decode cX6_scoreVisit 75 = .ok (.aload_n 0, 1) := by decide +kernel
theorem dX6_scoreVisit_76 : decode cX6_scoreVisit 76 = .ok (.getfield 94, 3) := by decide +kernel
theorem dX6_scoreVisit_79 : decode cX6_scoreVisit 79 = .ok (.putfield 97, 3) := by decide +kernel
theorem dX6_scoreVisit_82 : decode cX6_scoreVisit 82 = .ok (.aload_n 0, 1) := by decide +kernel
theorem dX6_scoreVisit_83 : decode cX6_scoreVisit 83 = .ok (.getfield 18, 3) := by decide +kernel
theorem dX6_scoreVisit_86 : decode cX6_scoreVisit 86 = .ok (.aload_n 1, 1) := by decide +kernel
theorem dX6_scoreVisit_87 : decode cX6_scoreVisit 87 = .ok (.getfield 53, 3) := by decide +kernel
theorem dX6_scoreVisit_90 : decode cX6_scoreVisit 90 = .ok (.aload_n 1, 1) := by decide +kernel
theorem dX6_scoreVisit_91 : decode cX6_scoreVisit 91 = .ok (.getfield 91, 3) := by decide +kernel
theorem dX6_scoreVisit_94 : decode cX6_scoreVisit 94 = .ok (.iastore, 1) := by decide +kernel
theorem dX6_scoreVisit_95 : decode cX6_scoreVisit 95 = .ok (.return_, 1) := by decide +kernel
theorem dX6_bonusWith_0 : decode cX6_bonusWith 0 = .ok (.aload_n 0, 1) := by decide +kernel
theorem dX6_bonusWith_1 : decode cX6_bonusWith 1 = .ok (.aload_n 1, 1) := by decide +kernel
theorem dX6_bonusWith_2 : decode cX6_bonusWith 2 = .ok (.iload_n 2, 1) := by decide +kernel
theorem dX6_bonusWith_3 : decode cX6_bonusWith 3 = .ok (.invokevirtual 71, 3) := by decide +kernel
theorem dX6_bonusWith_6 : decode cX6_bonusWith 6 = .ok (.aload_n 0, 1) := by decide +kernel
theorem dX6_bonusWith_7 : decode cX6_bonusWith 7 = .ok (.getfield 75, 3) := by decide +kernel
theorem dX6_bonusWith_10 : decode cX6_bonusWith 10 = .ok (.ifCond .eq 7, 3) := by decide +kernel
theorem dX6_bonusWith_13 : decode cX6_bonusWith 13 = .ok (.iconst 0, 1) := by decide +kernel
theorem dX6_bonusWith_14 : decode cX6_bonusWith 14 = .ok (.goto 7, 3) := by decide +kernel
theorem dX6_bonusWith_17 : decode cX6_bonusWith 17 = .ok (.aload_n 0, 1) := by decide +kernel
theorem dX6_bonusWith_18 : decode cX6_bonusWith 18 = .ok (.getfield 94, 3) := by decide +kernel
theorem dX6_bonusWith_21 : decode cX6_bonusWith 21 = .ok (.ireturn, 1) := by decide +kernel
theorem dX6_work_0 : decode cX6_work 0 = .ok (.aload_n 0, 1) := by decide +kernel
theorem dX6_work_1 : decode cX6_work 1 = .ok (.iconst 0, 1) := by decide +kernel
theorem dX6_work_2 : decode cX6_work 2 = .ok (.putfield 100, 3) := by decide +kernel
theorem dX6_work_5 : decode cX6_work 5 = .ok (.aload_n 0, 1) := by decide +kernel
theorem dX6_work_6 : decode cX6_work 6 = .ok (.iconst 0, 1) := by decide +kernel
theorem dX6_work_7 : decode cX6_work 7 = .ok (.putfield 79, 3) := by decide +kernel
theorem dX6_work_10 : decode cX6_work 10 = .ok (.aload_n 0, 1) := by decide +kernel
theorem dX6_work_11 : decode cX6_work 11 = .ok (.iconst 0, 1) := by decide +kernel
theorem dX6_work_12 : decode cX6_work 12 = .ok (.putfield 94, 3) := by decide +kernel
theorem dX6_work_15 : decode cX6_work 15 = .ok (.aload_n 0, 1) := by decide +kernel
theorem dX6_work_16 : decode cX6_work 16 = .ok (.iconst 0, 1) := by decide +kernel
theorem dX6_work_17 : decode cX6_work 17 = .ok (.putfield 103, 3) := by decide +kernel
theorem dX6_work_20 : decode cX6_work 20 = .ok (.aload_n 0, 1) := by decide +kernel
theorem dX6_work_21 : decode cX6_work 21 = .ok (.iconst 0, 1) := by decide +kernel
theorem dX6_work_22 : decode cX6_work 22 = .ok (.putfield 75, 3) := by decide +kernel
theorem dX6_work_25 : decode cX6_work 25 = .ok (.aload_n 1, 1) := by decide +kernel
theorem dX6_work_26 : decode cX6_work 26 = .ok (.getfield 65, 3) := by decide +kernel
theorem dX6_work_29 : decode cX6_work 29 = .ok (.iconst 0, 1) := by decide +kernel
theorem dX6_work_30 : decode cX6_work 30 = .ok (.aload_n 0, 1) := by decide +kernel
theorem dX6_work_31 : decode cX6_work 31 = .ok (.getfield 21, 3) := by decide +kernel
theorem dX6_work_34 : decode cX6_work 34 = .ok (.getfield 106, 3) := by decide +kernel
theorem dX6_work_37 : decode cX6_work 37 = .ok (.iconst 1, 1) := by decide +kernel
theorem dX6_work_38 : decode cX6_work 38 = .ok (.isub, 1) := by decide +kernel
theorem dX6_work_39 : decode cX6_work 39 = .ok (.invokestatic 109, 3) := by decide +kernel
theorem dX6_work_42 : decode cX6_work 42 = .ok (.ifCond .ne 4, 3) := by decide +kernel
theorem dX6_work_45 : decode cX6_work 45 = .ok (.return_, 1) := by decide +kernel
theorem dX6_work_46 : decode cX6_work 46 = .ok (.aload_n 0, 1) := by decide +kernel
theorem dX6_work_47 : decode cX6_work 47 = .ok (.getfield 21, 3) := by decide +kernel
theorem dX6_work_50 : decode cX6_work 50 = .ok (.getfield 113, 3) := by decide +kernel
theorem dX6_work_53 : decode cX6_work 53 = .ok (.aload_n 1, 1) := by decide +kernel
theorem dX6_work_54 : decode cX6_work 54 = .ok (.getfield 65, 3) := by decide +kernel
theorem dX6_work_57 : decode cX6_work 57 = .ok (.aaload, 1) := by decide +kernel
theorem dX6_work_58 : decode cX6_work 58 = .ok (.getfield 117, 3) := by decide +kernel
theorem dX6_work_61 : decode cX6_work 61 = .ok (.astore_n 3, 1) := by decide +kernel
theorem dX6_work_62 : decode cX6_work 62 = .ok (.iconst 0, 1) := by decide +kernel
theorem dX6_work_63 : decode cX6_work 63 = .ok (.istore 4, 2) := by decide +kernel
theorem dX6_work_65 : decode cX6_work 65 = .ok (.iload 4, 2) := by decide +kernel
theorem dX6_work_67 : decode cX6_work 67 = .ok (.aload_n 3, 1) := by decide +kernel
theorem dX6_work_68 : decode cX6_work 68 = .ok (.arraylength, 1) := by decide +kernel
theorem dX6_work_69 : decode cX6_work 69 = .ok (.if_icmp .ge 35, 3) := by decide +kernel
theorem dX6_work_72 : decode cX6_work 72 = .ok (.aload_n 0, 1) := by decide +kernel
theorem dX6_work_73 : decode cX6_work 73 = .ok (.getfield 75, 3) := by decide +kernel
theorem dX6_work_76 : decode cX6_work 76 = .ok (.ifCond .ne 28, 3) := by decide +kernel
theorem dX6_work_79 : decode cX6_work 79 = .ok (.aload_n 0, 1) := by decide +kernel
theorem dX6_work_80 : decode cX6_work 80 = .ok (.aload_n 3, 1) := by decide +kernel
theorem dX6_work_81 : decode cX6_work 81 = .ok (.iload 4, 2) := by decide +kernel
theorem dX6_work_83 : decode cX6_work 83 = .ok (.iaload, 1) := by decide +kernel
theorem dX6_work_84 : decode cX6_work 84 = .ok (.bipush 31, 2) := by decide +kernel
theorem dX6_work_86 : decode cX6_work 86 = .ok (.iand, 1) := by decide +kernel
theorem dX6_work_87 : decode cX6_work 87 = .ok (.aload_n 3, 1) := by decide +kernel
theorem dX6_work_88 : decode cX6_work 88 = .ok (.iload 4, 2) := by decide +kernel
theorem dX6_work_90 : decode cX6_work 90 = .ok (.iaload, 1) := by decide +kernel
theorem dX6_work_91 : decode cX6_work 91 = .ok (.iconst 5, 1) := by decide +kernel
theorem dX6_work_92 : decode cX6_work 92 = .ok (.ishr, 1) := by decide +kernel
theorem dX6_work_93 : decode cX6_work 93 = .ok (.aload_n 1, 1) := by decide +kernel
theorem dX6_work_94 : decode cX6_work 94 = .ok (.iload_n 2, 1) := by decide +kernel
theorem dX6_work_95 : decode cX6_work 95 = .ok (.invokevirtual 122, 3) := by decide +kernel
theorem dX6_work_98 : decode cX6_work 98 = .ok (.iinc 4 1, 3) := by decide +kernel
theorem dX6_work_101 : decode cX6_work 101 = .ok (.goto (-36), 3) := by decide +kernel
theorem dX6_work_104 : decode cX6_work 104 = .ok (.return_, 1) := by decide +kernel
theorem dX6_doStep_0 : decode cX6_doStep 0 = .ok (.iload_n 1, 1) := by decide +kernel
theorem dX6_doStep_1 : decode cX6_doStep 1 = .ok (.tableswitch 273 2 26 #[115, 123, 273, 273, 273, 273, 273, 273, 273, 273, 264, 264, 273, 264, 264, 273, 273, 150, 163, 175, 186, 200, 220, 234, 245], 115) := by decide +kernel
theorem dX6_doStep_116 : decode cX6_doStep 116 = .ok (.aload_n 0, 1) := by decide +kernel
theorem dX6_doStep_117 : decode cX6_doStep 117 = .ok (.iload_n 2, 1) := by decide +kernel
theorem dX6_doStep_118 : decode cX6_doStep 118 = .ok (.invokevirtual 126, 3) := by decide +kernel
theorem dX6_doStep_121 : decode cX6_doStep 121 = .ok (.goto 158, 3) := by decide +kernel
theorem dX6_doStep_124 : decode cX6_doStep 124 = .ok (.aload_n 0, 1) := by decide +kernel
theorem dX6_doStep_125 : decode cX6_doStep 125 = .ok (.iload_n 2, 1) := by decide +kernel
theorem dX6_doStep_126 : decode cX6_doStep 126 = .ok (.iconst 0, 1) := by decide +kernel
theorem dX6_doStep_127 : decode cX6_doStep 127 = .ok (.bipush 7, 2) := by decide +kernel
theorem dX6_doStep_129 : decode cX6_doStep 129 = .ok (.invokestatic 109, 3) := by decide +kernel
theorem dX6_doStep_132 : decode cX6_doStep 132 = .ok (.ifCond .eq 12, 3) := by decide +kernel
theorem dX6_doStep_135 : decode cX6_doStep 135 = .ok (.aload_n 0, 1) := by decide +kernel
theorem dX6_doStep_136 : decode cX6_doStep 136 = .ok (.getfield 15, 3) := by decide +kernel
theorem dX6_doStep_139 : decode cX6_doStep 139 = .ok (.iload_n 2, 1) := by decide +kernel
theorem dX6_doStep_140 : decode cX6_doStep 140 = .ok (.iaload, 1) := by decide +kernel
theorem dX6_doStep_141 : decode cX6_doStep 141 = .ok (.goto 4, 3) := by decide +kernel
theorem dX6_doStep_144 : decode cX6_doStep 144 = .ok (.iconst 0, 1) := by decide +kernel
theorem dX6_doStep_145 : decode cX6_doStep 145 = .ok (.invokevirtual 126, 3) := by decide +kernel
theorem dX6_doStep_148 : decode cX6_doStep 148 = .ok (.goto 131, 3) := by decide +kernel
theorem dX6_doStep_151 : decode cX6_doStep 151 = .ok (.aload_n 0, 1) := by decide +kernel
theorem dX6_doStep_152 : decode cX6_doStep 152 = .ok (.iload 4, 2) := by decide +kernel
theorem dX6_doStep_154 : decode cX6_doStep 154 = .ok (.iload_n 2, 1) := by decide +kernel
theorem dX6_doStep_155 : decode cX6_doStep 155 = .ok (.ishr, 1) := by decide +kernel
theorem dX6_doStep_156 : decode cX6_doStep 156 = .ok (.iconst 1, 1) := by decide +kernel
theorem dX6_doStep_157 : decode cX6_doStep 157 = .ok (.iand, 1) := by decide +kernel
theorem dX6_doStep_158 : decode cX6_doStep 158 = .ok (.invokevirtual 126, 3) := by decide +kernel
theorem dX6_doStep_161 : decode cX6_doStep 161 = .ok (.goto 118, 3) := by decide +kernel
theorem dX6_doStep_164 : decode cX6_doStep 164 = .ok (.aload_n 0, 1) := by decide +kernel
theorem dX6_doStep_165 : decode cX6_doStep 165 = .ok (.iload 4, 2) := by decide +kernel
theorem dX6_doStep_167 : decode cX6_doStep 167 = .ok (.invokestatic 130, 3) := by decide +kernel
theorem dX6_doStep_170 : decode cX6_doStep 170 = .ok (.invokevirtual 126, 3) := by decide +kernel
theorem dX6_doStep_173 : decode cX6_doStep 173 = .ok (.goto 106, 3) := by decide +kernel
theorem dX6_doStep_176 : decode cX6_doStep 176 = .ok (.aload_n 0, 1) := by decide +kernel
theorem dX6_doStep_177 : decode cX6_doStep 177 = .ok (.aload_n 3, 1) := by decide +kernel
theorem dX6_doStep_178 : decode cX6_doStep 178 = .ok (.getfield 136, 3) := by decide +kernel
theorem dX6_doStep_181 : decode cX6_doStep 181 = .ok (.invokevirtual 126, 3) := by decide +kernel
theorem dX6_doStep_184 : decode cX6_doStep 184 = .ok (.goto 95, 3) := by decide +kernel
theorem dX6_doStep_187 : decode cX6_doStep 187 = .ok (.aload_n 0, 1) := by decide +kernel
theorem dX6_doStep_188 : decode cX6_doStep 188 = .ok (.aload_n 3, 1) := by decide +kernel
theorem dX6_doStep_189 : decode cX6_doStep 189 = .ok (.getfield 139, 3) := by decide +kernel
theorem dX6_doStep_192 : decode cX6_doStep 192 = .ok (.bipush 60, 2) := by decide +kernel
theorem dX6_doStep_194 : decode cX6_doStep 194 = .ok (.idiv, 1) := by decide +kernel
theorem dX6_doStep_195 : decode cX6_doStep 195 = .ok (.invokevirtual 126, 3) := by decide +kernel
theorem dX6_doStep_198 : decode cX6_doStep 198 = .ok (.goto 81, 3) := by decide +kernel
theorem dX6_doStep_201 : decode cX6_doStep 201 = .ok (.aload_n 0, 1) := by decide +kernel
theorem dX6_doStep_202 : decode cX6_doStep 202 = .ok (.aload_n 3, 1) := by decide +kernel
theorem dX6_doStep_203 : decode cX6_doStep 203 = .ok (.getfield 142, 3) := by decide +kernel
theorem dX6_doStep_206 : decode cX6_doStep 206 = .ok (.iconst (-1), 1) := by decide +kernel
theorem dX6_doStep_207 : decode cX6_doStep 207 = .ok (.if_icmp .ne 7, 3) := by decide +kernel
theorem dX6_doStep_210 : decode cX6_doStep 210 = .ok (.iconst 0, 1) := by decide +kernel
theorem dX6_doStep_211 : decode cX6_doStep 211 = .ok (.goto 4, 3) := by decide +kernel
theorem dX6_doStep_214 : decode cX6_doStep 214 = .ok (.iconst 1, 1) := by decide +kernel
theorem dX6_doStep_215 : decode cX6_doStep 215 = .ok (.invokevirtual 126, 3) := by decide +kernel
theorem dX6_doStep_218 : decode cX6_doStep 218 = .ok (.goto 61, 3) := by decide +kernel
theorem dX6_doStep_221 : decode cX6_doStep 221 = .ok (.aload_n 0, 1) := by decide +kernel
theorem dX6_doStep_222 : decode cX6_doStep 222 = .ok (.aload_n 3, 1) := by decide +kernel
theorem dX6_doStep_223 : decode cX6_doStep 223 = .ok (.invokevirtual 145, 3) := by decide +kernel
theorem dX6_doStep_226 : decode cX6_doStep 226 = .ok (.bipush 53, 2) := by decide +kernel
theorem dX6_doStep_228 : decode cX6_doStep 228 = .ok (.irem, 1) := by decide +kernel
theorem dX6_doStep_229 : decode cX6_doStep 229 = .ok (.invokevirtual 126, 3) := by decide +kernel
theorem dX6_doStep_232 : decode cX6_doStep 232 = .ok (.goto 47, 3) := by decide +kernel
theorem dX6_doStep_235 : decode cX6_doStep 235 = .ok (.aload_n 0, 1) := by decide +kernel
theorem dX6_doStep_236 : decode cX6_doStep 236 = .ok (.aload_n 3, 1) := by decide +kernel
theorem dX6_doStep_237 : decode cX6_doStep 237 = .ok (.getfield 58, 3) := by decide +kernel
theorem dX6_doStep_240 : decode cX6_doStep 240 = .ok (.invokevirtual 126, 3) := by decide +kernel
theorem dX6_doStep_243 : decode cX6_doStep 243 = .ok (.goto 36, 3) := by decide +kernel
theorem dX6_doStep_246 : decode cX6_doStep 246 = .ok (.aload_n 0, 1) := by decide +kernel
theorem dX6_doStep_247 : decode cX6_doStep 247 = .ok (.aload_n 0, 1) := by decide +kernel
theorem dX6_doStep_248 : decode cX6_doStep 248 = .ok (.invokevirtual 149, 3) := by decide +kernel
theorem dX6_doStep_251 : decode cX6_doStep 251 = .ok (.ifCond .ne 7, 3) := by decide +kernel
theorem dX6_doStep_254 : decode cX6_doStep 254 = .ok (.iconst 1, 1) := by decide +kernel
theorem dX6_doStep_255 : decode cX6_doStep 255 = .ok (.goto 4, 3) := by decide +kernel
theorem dX6_doStep_258 : decode cX6_doStep 258 = .ok (.iconst 0, 1) := by decide +kernel
theorem dX6_doStep_259 : decode cX6_doStep 259 = .ok (.invokevirtual 126, 3) := by decide +kernel
theorem dX6_doStep_262 : decode cX6_doStep 262 = .ok (.goto 17, 3) := by decide +kernel
theorem dX6_doStep_265 : decode cX6_doStep 265 = .ok (.aload_n 0, 1) := by decide +kernel
theorem dX6_doStep_266 : decode cX6_doStep 266 = .ok (.iload_n 1, 1) := by decide +kernel
theorem dX6_doStep_267 : decode cX6_doStep 267 = .ok (.iload_n 2, 1) := by decide +kernel
theorem dX6_doStep_268 : decode cX6_doStep 268 = .ok (.invokevirtual 152, 3) := by decide +kernel
theorem dX6_doStep_271 : decode cX6_doStep 271 = .ok (.goto 8, 3) := by decide +kernel
theorem dX6_doStep_274 : decode cX6_doStep 274 = .ok (.aload_n 0, 1) := by decide +kernel
theorem dX6_doStep_275 : decode cX6_doStep 275 = .ok (.iload_n 1, 1) := by decide +kernel
theorem dX6_doStep_276 : decode cX6_doStep 276 = .ok (.invokevirtual 156, 3) := by decide +kernel
theorem dX6_doStep_279 : decode cX6_doStep 279 = .ok (.return_, 1) := by decide +kernel
theorem dX6_endLine_0 : decode cX6_endLine 0 = .ok (.aload_n 0, 1) := by decide +kernel
theorem dX6_endLine_1 : decode cX6_endLine 1 = .ok (.invokevirtual 149, 3) := by decide +kernel
theorem dX6_endLine_4 : decode cX6_endLine 4 = .ok (.istore_n 3, 1) := by decide +kernel
theorem dX6_endLine_5 : decode cX6_endLine 5 = .ok (.iload_n 1, 1) := by decide +kernel
theorem dX6_endLine_6 : decode cX6_endLine 6 = .ok (.bipush 12, 2) := by decide +kernel
theorem dX6_endLine_8 : decode cX6_endLine 8 = .ok (.if_icmp .ne 23, 3) := by decide +kernel
theorem dX6_endLine_11 : decode cX6_endLine 11 = .ok (.iload_n 2, 1) := by decide +kernel
theorem dX6_endLine_12 : decode cX6_endLine 12 = .ok (.iconst 0, 1) := by decide +kernel
theorem dX6_endLine_13 : decode cX6_endLine 13 = .ok (.bipush 7, 2) := by decide +kernel
theorem dX6_endLine_15 : decode cX6_endLine 15 = .ok (.invokestatic 109, 3) := by decide +kernel
theorem dX6_endLine_18 : decode cX6_endLine 18 = .ok (.ifCond .eq 90, 3) := by decide +kernel
theorem dX6_endLine_21 : decode cX6_endLine 21 = .ok (.aload_n 0, 1) := by decide +kernel
theorem dX6_endLine_22 : decode cX6_endLine 22 = .ok (.getfield 15, 3) := by decide +kernel
theorem dX6_endLine_25 : decode cX6_endLine 25 = .ok (.iload_n 2, 1) := by decide +kernel
theorem dX6_endLine_26 : decode cX6_endLine 26 = .ok (.iload_n 3, 1) := by decide +kernel
theorem dX6_endLine_27 : decode cX6_endLine 27 = .ok (.iastore, 1) := by decide +kernel
theorem dX6_endLine_28 : decode cX6_endLine 28 = .ok (.goto 80, 3) := by decide +kernel
theorem dX6_endLine_31 : decode cX6_endLine 31 = .ok (.iload_n 1, 1) := by decide +kernel
theorem dX6_endLine_32 : decode cX6_endLine 32 = .ok (.bipush 13, 2) := by decide +kernel
theorem dX6_endLine_34 : decode cX6_endLine 34 = .ok (.if_icmp .ne 31, 3) := by decide +kernel
theorem dX6_endLine_37 : decode cX6_endLine 37 = .ok (.aload_n 0, 1) := by decide +kernel
theorem dX6_endLine_38 : decode cX6_endLine 38 = .ok (.invokevirtual 149, 3) := by decide +kernel
theorem dX6_endLine_41 : decode cX6_endLine 41 = .ok (.istore 4, 2) := by decide +kernel
theorem dX6_endLine_43 : decode cX6_endLine 43 = .ok (.aload_n 0, 1) := by decide +kernel
theorem dX6_endLine_44 : decode cX6_endLine 44 = .ok (.dup, 1) := by decide +kernel
theorem dX6_endLine_45 : decode cX6_endLine 45 = .ok (.getfield 79, 3) := by decide +kernel
theorem dX6_endLine_48 : decode cX6_endLine 48 = .ok (.iload_n 3, 1) := by decide +kernel
theorem dX6_endLine_49 : decode cX6_endLine 49 = .ok (.ifCond .eq 8, 3) := by decide +kernel
theorem dX6_endLine_52 : decode cX6_endLine 52 = .ok (.iload 4, 2) := by decide +kernel
theorem dX6_endLine_54 : decode cX6_endLine 54 = .ok (.goto 4, 3) := by decide +kernel
theorem dX6_endLine_57 : decode cX6_endLine 57 = .ok (.iconst 0, 1) := by decide +kernel
theorem dX6_endLine_58 : decode cX6_endLine 58 = .ok (.iadd, 1) := by decide +kernel
theorem dX6_endLine_59 : decode cX6_endLine 59 = .ok (.putfield 79, 3) := by decide +kernel
theorem dX6_endLine_62 : decode cX6_endLine 62 = .ok (.goto 46, 3) := by decide +kernel
theorem dX6_endLine_65 : decode cX6_endLine 65 = .ok (.iload_n 1, 1) := by decide +kernel
theorem dX6_endLine_66 : decode cX6_endLine 66 = .ok (.bipush 15, 2) := by decide +kernel
theorem dX6_endLine_68 : decode cX6_endLine 68 = .ok (.if_icmp .ne 19, 3) := by decide +kernel
theorem dX6_endLine_71 : decode cX6_endLine 71 = .ok (.aload_n 0, 1) := by decide +kernel
theorem dX6_endLine_72 : decode cX6_endLine 72 = .ok (.iload_n 3, 1) := by decide +kernel
theorem dX6_endLine_73 : decode cX6_endLine 73 = .ok (.ifCond .ne 7, 3) := by decide +kernel
theorem dX6_endLine_76 : decode cX6_endLine 76 = .ok (.iconst 1, 1) := by decide +kernel
theorem dX6_endLine_77 : decode cX6_endLine 77 = .ok (.goto 4, 3) := by decide +kernel
theorem dX6_endLine_80 : decode cX6_endLine 80 = .ok (.iconst 0, 1) := by decide +kernel
theorem dX6_endLine_81 : decode cX6_endLine 81 = .ok (.putfield 75, 3) := by decide +kernel
theorem dX6_endLine_84 : decode cX6_endLine 84 = .ok (.goto 24, 3) := by decide +kernel
theorem dX6_endLine_87 : decode cX6_endLine 87 = .ok (.iload_n 3, 1) := by decide +kernel
theorem dX6_endLine_88 : decode cX6_endLine 88 = .ok (.ifCond .eq 20, 3) := by decide +kernel
theorem dX6_endLine_91 : decode cX6_endLine 91 = .ok (.aload_n 0, 1) := by decide +kernel
theorem dX6_endLine_92 : decode cX6_endLine 92 = .ok (.getfield 103, 3) := by decide +kernel
theorem dX6_endLine_95 : decode cX6_endLine 95 = .ok (.ifCond .ne 13, 3) := by decide +kernel
theorem dX6_endLine_98 : decode cX6_endLine 98 = .ok (.aload_n 0, 1) := by decide +kernel
theorem dX6_endLine_99 : decode cX6_endLine 99 = .ok (.iconst 1, 1) := by decide +kernel
theorem dX6_endLine_100 : decode cX6_endLine 100 = .ok (.putfield 103, 3) := by decide +kernel
theorem dX6_endLine_103 : decode cX6_endLine 103 = .ok (.aload_n 0, 1) := by decide +kernel
theorem dX6_endLine_104 : decode cX6_endLine 104 = .ok (.iload_n 2, 1) := by decide +kernel
theorem dX6_endLine_105 : decode cX6_endLine 105 = .ok (.putfield 94, 3) := by decide +kernel
theorem dX6_endLine_108 : decode cX6_endLine 108 = .ok (.return_, 1) := by decide +kernel
theorem dX6_joinTwo_0 : decode cX6_joinTwo 0 = .ok (.aload_n 0, 1) := by decide +kernel
theorem dX6_joinTwo_1 : decode cX6_joinTwo 1 = .ok (.invokevirtual 149, 3) := by decide +kernel
theorem dX6_joinTwo_4 : decode cX6_joinTwo 4 = .ok (.istore_n 2, 1) := by decide +kernel
theorem dX6_joinTwo_5 : decode cX6_joinTwo 5 = .ok (.aload_n 0, 1) := by decide +kernel
theorem dX6_joinTwo_6 : decode cX6_joinTwo 6 = .ok (.invokevirtual 149, 3) := by decide +kernel
theorem dX6_joinTwo_9 : decode cX6_joinTwo 9 = .ok (.istore_n 3, 1) := by decide +kernel
theorem dX6_joinTwo_10 : decode cX6_joinTwo 10 = .ok (.iload_n 1, 1) := by decide +kernel
theorem dX6_joinTwo_11 : decode cX6_joinTwo 11 = .ok (.tableswitch 145 6 17 #[91, 108, 61, 71, 81, 145, 145, 145, 145, 145, 145, 125], 61) := by decide +kernel
theorem dX6_joinTwo_72 : decode cX6_joinTwo 72 = .ok (.aload_n 0, 1) := by decide +kernel
theorem dX6_joinTwo_73 : decode cX6_joinTwo 73 = .ok (.iload_n 3, 1) := by decide +kernel
theorem dX6_joinTwo_74 : decode cX6_joinTwo 74 = .ok (.iload_n 2, 1) := by decide +kernel
theorem dX6_joinTwo_75 : decode cX6_joinTwo 75 = .ok (.iadd, 1) := by decide +kernel
theorem dX6_joinTwo_76 : decode cX6_joinTwo 76 = .ok (.invokevirtual 126, 3) := by decide +kernel
theorem dX6_joinTwo_79 : decode cX6_joinTwo 79 = .ok (.goto 94, 3) := by decide +kernel
theorem dX6_joinTwo_82 : decode cX6_joinTwo 82 = .ok (.aload_n 0, 1) := by decide +kernel
theorem dX6_joinTwo_83 : decode cX6_joinTwo 83 = .ok (.iload_n 3, 1) := by decide +kernel
theorem dX6_joinTwo_84 : decode cX6_joinTwo 84 = .ok (.iload_n 2, 1) := by decide +kernel
theorem dX6_joinTwo_85 : decode cX6_joinTwo 85 = .ok (.isub, 1) := by decide +kernel
theorem dX6_joinTwo_86 : decode cX6_joinTwo 86 = .ok (.invokevirtual 126, 3) := by decide +kernel
theorem dX6_joinTwo_89 : decode cX6_joinTwo 89 = .ok (.goto 84, 3) := by decide +kernel
theorem dX6_joinTwo_92 : decode cX6_joinTwo 92 = .ok (.aload_n 0, 1) := by decide +kernel
theorem dX6_joinTwo_93 : decode cX6_joinTwo 93 = .ok (.iload_n 3, 1) := by decide +kernel
theorem dX6_joinTwo_94 : decode cX6_joinTwo 94 = .ok (.iload_n 2, 1) := by decide +kernel
theorem dX6_joinTwo_95 : decode cX6_joinTwo 95 = .ok (.imul, 1) := by decide +kernel
theorem dX6_joinTwo_96 : decode cX6_joinTwo 96 = .ok (.invokevirtual 126, 3) := by decide +kernel
