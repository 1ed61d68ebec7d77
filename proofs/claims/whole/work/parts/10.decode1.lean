theorem dX7_isName_0 : decode cX7_isName 0 = .ok (.aload_n 0, 1) := by decide +kernel
theorem dX7_isName_1 : decode cX7_isName 1 = .ok (.getfield 58, 3) := by decide +kernel
theorem dX7_isName_4 : decode cX7_isName 4 = .ok (.iconst 2, 1) := by decide +kernel
theorem dX7_isName_5 : decode cX7_isName 5 = .ok (.if_icmp .ne 24, 3) := by decide +kernel
theorem dX7_isName_8 : decode cX7_isName 8 = .ok (.aload_n 0, 1) := by decide +kernel
theorem dX7_isName_9 : decode cX7_isName 9 = .ok (.getfield 70, 3) := by decide +kernel
theorem dX7_isName_12 : decode cX7_isName 12 = .ok (.bipush 8, 2) := by decide +kernel
theorem dX7_isName_14 : decode cX7_isName 14 = .ok (.if_icmp .gt 15, 3) := by decide +kernel
theorem dX7_isName_17 : decode cX7_isName 17 = .ok (.aload_n 0, 1) := by decide +kernel
theorem dX7_isName_18 : decode cX7_isName 18 = .ok (.getfield 55, 3) := by decide +kernel
theorem dX7_isName_21 : decode cX7_isName 21 = .ok (.iconst (-1), 1) := by decide +kernel
theorem dX7_isName_22 : decode cX7_isName 22 = .ok (.if_icmp .ne 7, 3) := by decide +kernel
theorem dX7_isName_25 : decode cX7_isName 25 = .ok (.iconst 1, 1) := by decide +kernel
theorem dX7_isName_26 : decode cX7_isName 26 = .ok (.goto 4, 3) := by decide +kernel
theorem dX7_isName_29 : decode cX7_isName 29 = .ok (.iconst 0, 1) := by decide +kernel
theorem dX7_isName_30 : decode cX7_isName 30 = .ok (.ireturn, 1) := by decide +kernel
theorem dX7_isSide_0 : decode cX7_isSide 0 = .ok (.aload_n 0, 1) := by decide +kernel
theorem dX7_isSide_1 : decode cX7_isSide 1 = .ok (.getfield 55, 3) := by decide +kernel
theorem dX7_isSide_4 : decode cX7_isSide 4 = .ok (.bipush 18, 2) := by decide +kernel
theorem dX7_isSide_6 : decode cX7_isSide 6 = .ok (.if_icmp .lt 7, 3) := by decide +kernel
theorem dX7_isSide_9 : decode cX7_isSide 9 = .ok (.iconst 1, 1) := by decide +kernel
theorem dX7_isSide_10 : decode cX7_isSide 10 = .ok (.goto 4, 3) := by decide +kernel
theorem dX7_isSide_13 : decode cX7_isSide 13 = .ok (.iconst 0, 1) := by decide +kernel
theorem dX7_isSide_14 : decode cX7_isSide 14 = .ok (.ireturn, 1) := by decide +kernel
theorem dX8_init_0 : decode cX8_init 0 = .ok (.aload_n 0, 1) := by decide +kernel
theorem dX8_init_1 : decode cX8_init 1 = .ok (.invokespecial 3, 3) := by decide +kernel
theorem dX8_init_4 : decode cX8_init 4 = .ok (.aload_n 0, 1) := by decide +kernel
theorem dX8_init_5 : decode cX8_init 5 = .ok (.bipush 25, 2) := by decide +kernel
theorem dX8_init_7 : decode cX8_init 7 = .ok (.newarray .int, 2) := by decide +kernel
theorem dX8_init_9 : decode cX8_init 9 = .ok (.putfield 9, 3) := by decide +kernel
theorem dX8_init_12 : decode cX8_init 12 = .ok (.aload_n 0, 1) := by decide +kernel
theorem dX8_init_13 : decode cX8_init 13 = .ok (.iconst 3, 1) := by decide +kernel
theorem dX8_init_14 : decode cX8_init 14 = .ok (.newarray .int, 2) := by decide +kernel
theorem dX8_init_16 : decode cX8_init 16 = .ok (.putfield 15, 3) := by decide +kernel
theorem dX8_init_19 : decode cX8_init 19 = .ok (.aload_n 0, 1) := by decide +kernel
theorem dX8_init_20 : decode cX8_init 20 = .ok (.bipush 54, 2) := by decide +kernel
theorem dX8_init_22 : decode cX8_init 22 = .ok (.newarray .int, 2) := by decide +kernel
theorem dX8_init_24 : decode cX8_init 24 = .ok (.putfield 18, 3) := by decide +kernel
theorem dX8_init_27 : decode cX8_init 27 = .ok (.aload_n 0, 1) := by decide +kernel
theorem dX8_init_28 : decode cX8_init 28 = .ok (.bipush 9, 2) := by decide +kernel
theorem dX8_init_30 : decode cX8_init 30 = .ok (.newarray .int, 2) := by decide +kernel
theorem dX8_init_32 : decode cX8_init 32 = .ok (.putfield 21, 3) := by decide +kernel
theorem dX8_init_35 : decode cX8_init 35 = .ok (.aload_n 0, 1) := by decide +kernel
theorem dX8_init_36 : decode cX8_init 36 = .ok (.bipush 25, 2) := by decide +kernel
theorem dX8_init_38 : decode cX8_init 38 = .ok (.newarray .long, 2) := by decide +kernel
theorem dX8_init_40 : decode cX8_init 40 = .ok (.putfield 24, 3) := by decide +kernel
theorem dX8_init_43 : decode cX8_init 43 = .ok (.aload_n 0, 1) := by decide +kernel
theorem dX8_init_44 : decode cX8_init 44 = .ok (.new 28, 3) := by decide +kernel
theorem dX8_init_47 : decode cX8_init 47 = .ok (.dup, 1) := by decide +kernel
theorem dX8_init_48 : decode cX8_init 48 = .ok (.invokespecial 30, 3) := by decide +kernel
theorem dX8_init_51 : decode cX8_init 51 = .ok (.putfield 31, 3) := by decide +kernel
theorem dX8_init_54 : decode cX8_init 54 = .ok (.return_, 1) := by decide +kernel
theorem dX8_wantPromises_0 : decode cX8_wantPromises 0 = .ok (.aload_n 1, 1) := by decide +kernel
theorem dX8_wantPromises_1 : decode cX8_wantPromises 1 = .ok (.getfield 35, 3) := by decide +kernel
theorem dX8_wantPromises_4 : decode cX8_wantPromises 4 = .ok (.iconst 0, 1) := by decide +kernel
theorem dX8_wantPromises_5 : decode cX8_wantPromises 5 = .ok (.aload_n 0, 1) := by decide +kernel
theorem dX8_wantPromises_6 : decode cX8_wantPromises 6 = .ok (.getfield 18, 3) := by decide +kernel
theorem dX8_wantPromises_9 : decode cX8_wantPromises 9 = .ok (.iconst 0, 1) := by decide +kernel
theorem dX8_wantPromises_10 : decode cX8_wantPromises 10 = .ok (.bipush 54, 2) := by decide +kernel
theorem dX8_wantPromises_12 : decode cX8_wantPromises 12 = .ok (.invokestatic 40, 3) := by decide +kernel
theorem dX8_wantPromises_15 : decode cX8_wantPromises 15 = .ok (.aload_n 0, 1) := by decide +kernel
theorem dX8_wantPromises_16 : decode cX8_wantPromises 16 = .ok (.iload_n 2, 1) := by decide +kernel
theorem dX8_wantPromises_17 : decode cX8_wantPromises 17 = .ok (.aload_n 1, 1) := by decide +kernel
theorem dX8_wantPromises_18 : decode cX8_wantPromises 18 = .ok (.getfield 46, 3) := by decide +kernel
theorem dX8_wantPromises_21 : decode cX8_wantPromises 21 = .ok (.iand, 1) := by decide +kernel
theorem dX8_wantPromises_22 : decode cX8_wantPromises 22 = .ok (.putfield 50, 3) := by decide +kernel
theorem dX8_wantPromises_25 : decode cX8_wantPromises 25 = .ok (.aload_n 0, 1) := by decide +kernel
theorem dX8_wantPromises_26 : decode cX8_wantPromises 26 = .ok (.aload_n 1, 1) := by decide +kernel
theorem dX8_wantPromises_27 : decode cX8_wantPromises 27 = .ok (.invokevirtual 53, 3) := by decide +kernel
theorem dX8_wantPromises_30 : decode cX8_wantPromises 30 = .ok (.return_, 1) := by decide +kernel
theorem dX8_wantFromAll_0 : decode cX8_wantFromAll 0 = .ok (.aload_n 2, 1) := by decide +kernel
theorem dX8_wantFromAll_1 : decode cX8_wantFromAll 1 = .ok (.iconst 0, 1) := by decide +kernel
theorem dX8_wantFromAll_2 : decode cX8_wantFromAll 2 = .ok (.aload_n 0, 1) := by decide +kernel
theorem dX8_wantFromAll_3 : decode cX8_wantFromAll 3 = .ok (.getfield 18, 3) := by decide +kernel
theorem dX8_wantFromAll_6 : decode cX8_wantFromAll 6 = .ok (.iconst 0, 1) := by decide +kernel
theorem dX8_wantFromAll_7 : decode cX8_wantFromAll 7 = .ok (.bipush 54, 2) := by decide +kernel
theorem dX8_wantFromAll_9 : decode cX8_wantFromAll 9 = .ok (.invokestatic 40, 3) := by decide +kernel
theorem dX8_wantFromAll_12 : decode cX8_wantFromAll 12 = .ok (.aload_n 0, 1) := by decide +kernel
theorem dX8_wantFromAll_13 : decode cX8_wantFromAll 13 = .ok (.iconst 1, 1) := by decide +kernel
theorem dX8_wantFromAll_14 : decode cX8_wantFromAll 14 = .ok (.aload_n 1, 1) := by decide +kernel
theorem dX8_wantFromAll_15 : decode cX8_wantFromAll 15 = .ok (.getfield 57, 3) := by decide +kernel
theorem dX8_wantFromAll_18 : decode cX8_wantFromAll 18 = .ok (.ishl, 1) := by decide +kernel
theorem dX8_wantFromAll_19 : decode cX8_wantFromAll 19 = .ok (.iconst 1, 1) := by decide +kernel
theorem dX8_wantFromAll_20 : decode cX8_wantFromAll 20 = .ok (.isub, 1) := by decide +kernel
theorem dX8_wantFromAll_21 : decode cX8_wantFromAll 21 = .ok (.putfield 50, 3) := by decide +kernel
theorem dX8_wantFromAll_24 : decode cX8_wantFromAll 24 = .ok (.aload_n 0, 1) := by decide +kernel
theorem dX8_wantFromAll_25 : decode cX8_wantFromAll 25 = .ok (.aload_n 1, 1) := by decide +kernel
theorem dX8_wantFromAll_26 : decode cX8_wantFromAll 26 = .ok (.invokevirtual 53, 3) := by decide +kernel
theorem dX8_wantFromAll_29 : decode cX8_wantFromAll 29 = .ok (.return_, 1) := by decide +kernel
theorem dX8_wantViews_0 : decode cX8_wantViews 0 = .ok (.aload_n 1, 1) := by decide +kernel
theorem dX8_wantViews_1 : decode cX8_wantViews 1 = .ok (.aload_n 2, 1) := by decide +kernel
theorem dX8_wantViews_2 : decode cX8_wantViews 2 = .ok (.aload_n 0, 1) := by decide +kernel
theorem dX8_wantViews_3 : decode cX8_wantViews 3 = .ok (.getfield 18, 3) := by decide +kernel
theorem dX8_wantViews_6 : decode cX8_wantViews 6 = .ok (.invokevirtual 60, 3) := by decide +kernel
theorem dX8_wantViews_9 : decode cX8_wantViews 9 = .ok (.aload_n 0, 1) := by decide +kernel
theorem dX8_wantViews_10 : decode cX8_wantViews 10 = .ok (.iconst 1, 1) := by decide +kernel
theorem dX8_wantViews_11 : decode cX8_wantViews 11 = .ok (.aload_n 1, 1) := by decide +kernel
theorem dX8_wantViews_12 : decode cX8_wantViews 12 = .ok (.getfield 57, 3) := by decide +kernel
theorem dX8_wantViews_15 : decode cX8_wantViews 15 = .ok (.ishl, 1) := by decide +kernel
theorem dX8_wantViews_16 : decode cX8_wantViews 16 = .ok (.iconst 1, 1) := by decide +kernel
theorem dX8_wantViews_17 : decode cX8_wantViews 17 = .ok (.isub, 1) := by decide +kernel
theorem dX8_wantViews_18 : decode cX8_wantViews 18 = .ok (.putfield 50, 3) := by decide +kernel
theorem dX8_wantViews_21 : decode cX8_wantViews 21 = .ok (.aload_n 0, 1) := by decide +kernel
theorem dX8_wantViews_22 : decode cX8_wantViews 22 = .ok (.aload_n 1, 1) := by decide +kernel
theorem dX8_wantViews_23 : decode cX8_wantViews 23 = .ok (.invokevirtual 53, 3) := by decide +kernel
theorem dX8_wantViews_26 : decode cX8_wantViews 26 = .ok (.return_, 1) := by decide +kernel
theorem dX8_findCaps_0 : decode cX8_findCaps 0 = .ok (.aload_n 1, 1) := by decide +kernel
theorem dX8_findCaps_1 : decode cX8_findCaps 1 = .ok (.getfield 64, 3) := by decide +kernel
theorem dX8_findCaps_4 : decode cX8_findCaps 4 = .ok (.istore_n 2, 1) := by decide +kernel
theorem dX8_findCaps_5 : decode cX8_findCaps 5 = .ok (.aload_n 1, 1) := by decide +kernel
theorem dX8_findCaps_6 : decode cX8_findCaps 6 = .ok (.getfield 67, 3) := by decide +kernel
theorem dX8_findCaps_9 : decode cX8_findCaps 9 = .ok (.iconst 0, 1) := by decide +kernel
theorem dX8_findCaps_10 : decode cX8_findCaps 10 = .ok (.aload_n 0, 1) := by decide +kernel
theorem dX8_findCaps_11 : decode cX8_findCaps 11 = .ok (.getfield 9, 3) := by decide +kernel
theorem dX8_findCaps_14 : decode cX8_findCaps 14 = .ok (.iconst 0, 1) := by decide +kernel
theorem dX8_findCaps_15 : decode cX8_findCaps 15 = .ok (.iload_n 2, 1) := by decide +kernel
theorem dX8_findCaps_16 : decode cX8_findCaps 16 = .ok (.invokestatic 40, 3) := by decide +kernel
theorem dX8_findCaps_19 : decode cX8_findCaps 19 = .ok (.iconst 0, 1) := by decide +kernel
theorem dX8_findCaps_20 : decode cX8_findCaps 20 = .ok (.istore_n 3, 1) := by decide +kernel
theorem dX8_findCaps_21 : decode cX8_findCaps 21 = .ok (.iload_n 3, 1) := by decide +kernel
theorem dX8_findCaps_22 : decode cX8_findCaps 22 = .ok (.aload_n 1, 1) := by decide +kernel
theorem dX8_findCaps_23 : decode cX8_findCaps 23 = .ok (.getfield 57, 3) := by decide +kernel
theorem dX8_findCaps_26 : decode cX8_findCaps 26 = .ok (.if_icmp .ge 75, 3) := by decide +kernel
theorem dX8_findCaps_29 : decode cX8_findCaps 29 = .ok (.aload_n 0, 1) := by decide +kernel
theorem dX8_findCaps_30 : decode cX8_findCaps 30 = .ok (.iload_n 3, 1) := by decide +kernel
theorem dX8_findCaps_31 : decode cX8_findCaps 31 = .ok (.invokevirtual 70, 3) := by decide +kernel
theorem dX8_findCaps_34 : decode cX8_findCaps 34 = .ok (.ifCond .eq 61, 3) := by decide +kernel
theorem dX8_findCaps_37 : decode cX8_findCaps 37 = .ok (.iconst 0, 1) := by decide +kernel
theorem dX8_findCaps_38 : decode cX8_findCaps 38 = .ok (.istore 4, 2) := by decide +kernel
theorem dX8_findCaps_40 : decode cX8_findCaps 40 = .ok (.iload 4, 2) := by decide +kernel
theorem dX8_findCaps_42 : decode cX8_findCaps 42 = .ok (.iload_n 2, 1) := by decide +kernel
theorem dX8_findCaps_43 : decode cX8_findCaps 43 = .ok (.if_icmp .ge 52, 3) := by decide +kernel
theorem dX8_findCaps_46 : decode cX8_findCaps 46 = .ok (.aload_n 1, 1) := by decide +kernel
theorem dX8_findCaps_47 : decode cX8_findCaps 47 = .ok (.aload_n 1, 1) := by decide +kernel
theorem dX8_findCaps_48 : decode cX8_findCaps 48 = .ok (.getfield 74, 3) := by decide +kernel
theorem dX8_findCaps_51 : decode cX8_findCaps 51 = .ok (.iload_n 3, 1) := by decide +kernel
theorem dX8_findCaps_52 : decode cX8_findCaps 52 = .ok (.iaload, 1) := by decide +kernel
theorem dX8_findCaps_53 : decode cX8_findCaps 53 = .ok (.iload 4, 2) := by decide +kernel
theorem dX8_findCaps_55 : decode cX8_findCaps 55 = .ok (.invokevirtual 77, 3) := by decide +kernel
theorem dX8_findCaps_58 : decode cX8_findCaps 58 = .ok (.istore 5, 2) := by decide +kernel
theorem dX8_findCaps_60 : decode cX8_findCaps 60 = .ok (.aload_n 0, 1) := by decide +kernel
theorem dX8_findCaps_61 : decode cX8_findCaps 61 = .ok (.getfield 9, 3) := by decide +kernel
theorem dX8_findCaps_64 : decode cX8_findCaps 64 = .ok (.iload 4, 2) := by decide +kernel
theorem dX8_findCaps_66 : decode cX8_findCaps 66 = .ok (.aload_n 0, 1) := by decide +kernel
theorem dX8_findCaps_67 : decode cX8_findCaps 67 = .ok (.getfield 9, 3) := by decide +kernel
theorem dX8_findCaps_70 : decode cX8_findCaps 70 = .ok (.iload 4, 2) := by decide +kernel
theorem dX8_findCaps_72 : decode cX8_findCaps 72 = .ok (.iaload, 1) := by decide +kernel
theorem dX8_findCaps_73 : decode cX8_findCaps 73 = .ok (.aload_n 0, 1) := by decide +kernel
theorem dX8_findCaps_74 : decode cX8_findCaps 74 = .ok (.getfield 18, 3) := by decide +kernel
theorem dX8_findCaps_77 : decode cX8_findCaps 77 = .ok (.iload_n 3, 1) := by decide +kernel
theorem dX8_findCaps_78 : decode cX8_findCaps 78 = .ok (.bipush 9, 2) := by decide +kernel
theorem dX8_findCaps_80 : decode cX8_findCaps 80 = .ok (.imul, 1) := by decide +kernel
theorem dX8_findCaps_81 : decode cX8_findCaps 81 = .ok (.iload 5, 2) := by decide +kernel
theorem dX8_findCaps_83 : decode cX8_findCaps 83 = .ok (.iadd, 1) := by decide +kernel
theorem dX8_findCaps_84 : decode cX8_findCaps 84 = .ok (.iaload, 1) := by decide +kernel
theorem dX8_findCaps_85 : decode cX8_findCaps 85 = .ok (.invokestatic 81, 3) := by decide +kernel
theorem dX8_findCaps_88 : decode cX8_findCaps 88 = .ok (.iastore, 1) := by decide +kernel
theorem dX8_findCaps_89 : decode cX8_findCaps 89 = .ok (.iinc 4 1, 3) := by decide +kernel
theorem dX8_findCaps_92 : decode cX8_findCaps 92 = .ok (.goto (-52), 3) := by decide +kernel
theorem dX8_findCaps_95 : decode cX8_findCaps 95 = .ok (.iinc 3 1, 3) := by decide +kernel
theorem dX8_findCaps_98 : decode cX8_findCaps 98 = .ok (.goto (-77), 3) := by decide +kernel
theorem dX8_findCaps_101 : decode cX8_findCaps 101 = .ok (.return_, 1) := by decide +kernel
theorem dX8_isWatching_0 : decode cX8_isWatching 0 = .ok (.aload_n 0, 1) := by decide +kernel
theorem dX8_isWatching_1 : decode cX8_isWatching 1 = .ok (.getfield 50, 3) := by decide +kernel
theorem dX8_isWatching_4 : decode cX8_isWatching 4 = .ok (.iload_n 1, 1) := by decide +kernel
theorem dX8_isWatching_5 : decode cX8_isWatching 5 = .ok (.ishr, 1) := by decide +kernel
theorem dX8_isWatching_6 : decode cX8_isWatching 6 = .ok (.iconst 1, 1) := by decide +kernel
theorem dX8_isWatching_7 : decode cX8_isWatching 7 = .ok (.iand, 1) := by decide +kernel
theorem dX8_isWatching_8 : decode cX8_isWatching 8 = .ok (.iconst 1, 1) := by decide +kernel
theorem dX8_isWatching_9 : decode cX8_isWatching 9 = .ok (.if_icmp .ne 7, 3) := by decide +kernel
theorem dX8_isWatching_12 : decode cX8_isWatching 12 = .ok (.iconst 1, 1) := by decide +kernel
theorem dX8_isWatching_13 : decode cX8_isWatching 13 = .ok (.goto 4, 3) := by decide +kernel
theorem dX8_isWatching_16 : decode cX8_isWatching 16 = .ok (.iconst 0, 1) := by decide +kernel
theorem dX8_isWatching_17 : decode cX8_isWatching 17 = .ok (.ireturn, 1) := by decide +kernel
theorem dX8_keepLow_0 : decode cX8_keepLow 0 = .ok (.aload_n 0, 1) := by decide +kernel
theorem dX8_keepLow_1 : decode cX8_keepLow 1 = .ok (.getfield 9, 3) := by decide +kernel
theorem dX8_keepLow_4 : decode cX8_keepLow 4 = .ok (.iload_n 2, 1) := by decide +kernel
theorem dX8_keepLow_5 : decode cX8_keepLow 5 = .ok (.aload_n 0, 1) := by decide +kernel
theorem dX8_keepLow_6 : decode cX8_keepLow 6 = .ok (.getfield 9, 3) := by decide +kernel
theorem dX8_keepLow_9 : decode cX8_keepLow 9 = .ok (.iload_n 2, 1) := by decide +kernel
theorem dX8_keepLow_10 : decode cX8_keepLow 10 = .ok (.iaload, 1) := by decide +kernel
theorem dX8_keepLow_11 : decode cX8_keepLow 11 = .ok (.aload_n 1, 1) := by decide +kernel
theorem dX8_keepLow_12 : decode cX8_keepLow 12 = .ok (.getfield 86, 3) := by decide +kernel
theorem dX8_keepLow_15 : decode cX8_keepLow 15 = .ok (.iload_n 2, 1) := by decide +kernel
theorem dX8_keepLow_16 : decode cX8_keepLow 16 = .ok (.iaload, 1) := by decide +kernel
theorem dX8_keepLow_17 : decode cX8_keepLow 17 = .ok (.invokestatic 81, 3) := by decide +kernel
theorem dX8_keepLow_20 : decode cX8_keepLow 20 = .ok (.iastore, 1) := by decide +kernel
theorem dX8_keepLow_21 : decode cX8_keepLow 21 = .ok (.return_, 1) := by decide +kernel
theorem dX8_canBeKept_0 : decode cX8_canBeKept 0 = .ok (.aload_n 0, 1) := by decide +kernel
theorem dX8_canBeKept_1 : decode cX8_canBeKept 1 = .ok (.getfield 15, 3) := by decide +kernel
theorem dX8_canBeKept_4 : decode cX8_canBeKept 4 = .ok (.iconst (-1), 1) := by decide +kernel
theorem dX8_canBeKept_5 : decode cX8_canBeKept 5 = .ok (.invokestatic 89, 3) := by decide +kernel
theorem dX8_canBeKept_8 : decode cX8_canBeKept 8 = .ok (.iconst 0, 1) := by decide +kernel
theorem dX8_canBeKept_9 : decode cX8_canBeKept 9 = .ok (.istore_n 2, 1) := by decide +kernel
theorem dX8_canBeKept_10 : decode cX8_canBeKept 10 = .ok (.iload_n 2, 1) := by decide +kernel
theorem dX8_canBeKept_11 : decode cX8_canBeKept 11 = .ok (.aload_n 1, 1) := by decide +kernel
theorem dX8_canBeKept_12 : decode cX8_canBeKept 12 = .ok (.getfield 64, 3) := by decide +kernel
theorem dX8_canBeKept_15 : decode cX8_canBeKept 15 = .ok (.if_icmp .ge 33, 3) := by decide +kernel
theorem dX8_canBeKept_18 : decode cX8_canBeKept 18 = .ok (.aload_n 0, 1) := by decide +kernel
theorem dX8_canBeKept_19 : decode cX8_canBeKept 19 = .ok (.getfield 9, 3) := by decide +kernel
theorem dX8_canBeKept_22 : decode cX8_canBeKept 22 = .ok (.iload_n 2, 1) := by decide +kernel
theorem dX8_canBeKept_23 : decode cX8_canBeKept 23 = .ok (.iaload, 1) := by decide +kernel
theorem dX8_canBeKept_24 : decode cX8_canBeKept 24 = .ok (.aload_n 1, 1) := by decide +kernel
theorem dX8_canBeKept_25 : decode cX8_canBeKept 25 = .ok (.getfield 86, 3) := by decide +kernel
theorem dX8_canBeKept_28 : decode cX8_canBeKept 28 = .ok (.iload_n 2, 1) := by decide +kernel
theorem dX8_canBeKept_29 : decode cX8_canBeKept 29 = .ok (.iaload, 1) := by decide +kernel
theorem dX8_canBeKept_30 : decode cX8_canBeKept 30 = .ok (.if_icmp .ge 12, 3) := by decide +kernel
theorem dX8_canBeKept_33 : decode cX8_canBeKept 33 = .ok (.aload_n 0, 1) := by decide +kernel
theorem dX8_canBeKept_34 : decode cX8_canBeKept 34 = .ok (.getfield 15, 3) := by decide +kernel
theorem dX8_canBeKept_37 : decode cX8_canBeKept 37 = .ok (.iconst 0, 1) := by decide +kernel
theorem dX8_canBeKept_38 : decode cX8_canBeKept 38 = .ok (.iload_n 2, 1) := by decide +kernel
theorem dX8_canBeKept_39 : decode cX8_canBeKept 39 = .ok (.iastore, 1) := by decide +kernel
theorem dX8_canBeKept_40 : decode cX8_canBeKept 40 = .ok (.iconst 0, 1) := by decide +kernel
theorem dX8_canBeKept_41 : decode cX8_canBeKept 41 = .ok (.ireturn, 1) := by decide +kernel
theorem dX8_canBeKept_42 : decode cX8_canBeKept 42 = .ok (.iinc 2 1, 3) := by decide +kernel
theorem dX8_canBeKept_45 : decode cX8_canBeKept 45 = .ok (.goto (-35), 3) := by decide +kernel
theorem dX8_canBeKept_48 : decode cX8_canBeKept 48 = .ok (.iconst 0, 1) := by decide +kernel
theorem dX8_canBeKept_49 : decode cX8_canBeKept 49 = .ok (.istore_n 2, 1) := by decide +kernel
theorem dX8_canBeKept_50 : decode cX8_canBeKept 50 = .ok (.iload_n 2, 1) := by decide +kernel
theorem dX8_canBeKept_51 : decode cX8_canBeKept 51 = .ok (.aload_n 1, 1) := by decide +kernel
theorem dX8_canBeKept_52 : decode cX8_canBeKept 52 = .ok (.getfield 57, 3) := by decide +kernel
theorem dX8_canBeKept_55 : decode cX8_canBeKept 55 = .ok (.if_icmp .ge 28, 3) := by decide +kernel
theorem dX8_canBeKept_58 : decode cX8_canBeKept 58 = .ok (.aload_n 0, 1) := by decide +kernel
theorem dX8_canBeKept_59 : decode cX8_canBeKept 59 = .ok (.iload_n 2, 1) := by decide +kernel
theorem dX8_canBeKept_60 : decode cX8_canBeKept 60 = .ok (.invokevirtual 70, 3) := by decide +kernel
theorem dX8_canBeKept_63 : decode cX8_canBeKept 63 = .ok (.ifCond .eq 14, 3) := by decide +kernel
theorem dX8_canBeKept_66 : decode cX8_canBeKept 66 = .ok (.aload_n 0, 1) := by decide +kernel
theorem dX8_canBeKept_67 : decode cX8_canBeKept 67 = .ok (.aload_n 1, 1) := by decide +kernel
theorem dX8_canBeKept_68 : decode cX8_canBeKept 68 = .ok (.iload_n 2, 1) := by decide +kernel
theorem dX8_canBeKept_69 : decode cX8_canBeKept 69 = .ok (.invokevirtual 95, 3) := by decide +kernel
theorem dX8_canBeKept_72 : decode cX8_canBeKept 72 = .ok (.ifCond .ne 5, 3) := by decide +kernel
theorem dX8_canBeKept_75 : decode cX8_canBeKept 75 = .ok (.iconst 0, 1) := by decide +kernel
theorem dX8_canBeKept_76 : decode cX8_canBeKept 76 = .ok (.ireturn, 1) := by decide +kernel
theorem dX8_canBeKept_77 : decode cX8_canBeKept 77 = .ok (.iinc 2 1, 3) := by decide +kernel
theorem dX8_canBeKept_80 : decode cX8_canBeKept 80 = .ok (.goto (-30), 3) := by decide +kernel
theorem dX8_canBeKept_83 : decode cX8_canBeKept 83 = .ok (.iconst 1, 1) := by decide +kernel
theorem dX8_canBeKept_84 : decode cX8_canBeKept 84 = .ok (.ireturn, 1) := by decide +kernel
theorem dX8_isSeenByCaps_0 : decode cX8_isSeenByCaps 0 = .ok (.aload_n 1, 1) := by decide +kernel
theorem dX8_isSeenByCaps_1 : decode cX8_isSeenByCaps 1 = .ok (.aload_n 1, 1) := by decide +kernel
theorem dX8_isSeenByCaps_2 : decode cX8_isSeenByCaps 2 = .ok (.getfield 74, 3) := by decide +kernel
theorem dX8_isSeenByCaps_5 : decode cX8_isSeenByCaps 5 = .ok (.iload_n 2, 1) := by decide +kernel
theorem dX8_isSeenByCaps_6 : decode cX8_isSeenByCaps 6 = .ok (.iaload, 1) := by decide +kernel
theorem dX8_isSeenByCaps_7 : decode cX8_isSeenByCaps 7 = .ok (.aload_n 0, 1) := by decide +kernel
theorem dX8_isSeenByCaps_8 : decode cX8_isSeenByCaps 8 = .ok (.getfield 9, 3) := by decide +kernel
theorem dX8_isSeenByCaps_11 : decode cX8_isSeenByCaps 11 = .ok (.aload_n 0, 1) := by decide +kernel
theorem dX8_isSeenByCaps_12 : decode cX8_isSeenByCaps 12 = .ok (.getfield 21, 3) := by decide +kernel
theorem dX8_isSeenByCaps_15 : decode cX8_isSeenByCaps 15 = .ok (.iconst 0, 1) := by decide +kernel
theorem dX8_isSeenByCaps_16 : decode cX8_isSeenByCaps 16 = .ok (.invokevirtual 99, 3) := by decide +kernel
theorem dX8_isSeenByCaps_19 : decode cX8_isSeenByCaps 19 = .ok (.iconst 0, 1) := by decide +kernel
theorem dX8_isSeenByCaps_20 : decode cX8_isSeenByCaps 20 = .ok (.istore_n 3, 1) := by decide +kernel
theorem dX8_isSeenByCaps_21 : decode cX8_isSeenByCaps 21 = .ok (.iload_n 3, 1) := by decide +kernel
theorem dX8_isSeenByCaps_22 : decode cX8_isSeenByCaps 22 = .ok (.aload_n 1, 1) := by decide +kernel
theorem dX8_isSeenByCaps_23 : decode cX8_isSeenByCaps 23 = .ok (.iload_n 2, 1) := by decide +kernel
theorem dX8_isSeenByCaps_24 : decode cX8_isSeenByCaps 24 = .ok (.invokevirtual 103, 3) := by decide +kernel
theorem dX8_isSeenByCaps_27 : decode cX8_isSeenByCaps 27 = .ok (.if_icmp .ge 45, 3) := by decide +kernel
theorem dX8_isSeenByCaps_30 : decode cX8_isSeenByCaps 30 = .ok (.aload_n 0, 1) := by decide +kernel
theorem dX8_isSeenByCaps_31 : decode cX8_isSeenByCaps 31 = .ok (.getfield 21, 3) := by decide +kernel
theorem dX8_isSeenByCaps_34 : decode cX8_isSeenByCaps 34 = .ok (.iload_n 3, 1) := by decide +kernel
theorem dX8_isSeenByCaps_35 : decode cX8_isSeenByCaps 35 = .ok (.iaload, 1) := by decide +kernel
theorem dX8_isSeenByCaps_36 : decode cX8_isSeenByCaps 36 = .ok (.aload_n 0, 1) := by decide +kernel
theorem dX8_isSeenByCaps_37 : decode cX8_isSeenByCaps 37 = .ok (.getfield 18, 3) := by decide +kernel
theorem dX8_isSeenByCaps_40 : decode cX8_isSeenByCaps 40 = .ok (.iload_n 2, 1) := by decide +kernel
theorem dX8_isSeenByCaps_41 : decode cX8_isSeenByCaps 41 = .ok (.bipush 9, 2) := by decide +kernel
theorem dX8_isSeenByCaps_43 : decode cX8_isSeenByCaps 43 = .ok (.imul, 1) := by decide +kernel
theorem dX8_isSeenByCaps_44 : decode cX8_isSeenByCaps 44 = .ok (.iload_n 3, 1) := by decide +kernel
theorem dX8_isSeenByCaps_45 : decode cX8_isSeenByCaps 45 = .ok (.iadd, 1) := by decide +kernel
theorem dX8_isSeenByCaps_46 : decode cX8_isSeenByCaps 46 = .ok (.iaload, 1) := by decide +kernel
theorem dX8_isSeenByCaps_47 : decode cX8_isSeenByCaps 47 = .ok (.if_icmp .eq 19, 3) := by decide +kernel
theorem dX8_isSeenByCaps_50 : decode cX8_isSeenByCaps 50 = .ok (.aload_n 0, 1) := by decide +kernel
theorem dX8_isSeenByCaps_51 : decode cX8_isSeenByCaps 51 = .ok (.getfield 15, 3) := by decide +kernel
theorem dX8_isSeenByCaps_54 : decode cX8_isSeenByCaps 54 = .ok (.iconst 1, 1) := by decide +kernel
theorem dX8_isSeenByCaps_55 : decode cX8_isSeenByCaps 55 = .ok (.iload_n 2, 1) := by decide +kernel
theorem dX8_isSeenByCaps_56 : decode cX8_isSeenByCaps 56 = .ok (.iastore, 1) := by decide +kernel
theorem dX8_isSeenByCaps_57 : decode cX8_isSeenByCaps 57 = .ok (.aload_n 0, 1) := by decide +kernel
theorem dX8_isSeenByCaps_58 : decode cX8_isSeenByCaps 58 = .ok (.getfield 15, 3) := by decide +kernel
theorem dX8_isSeenByCaps_61 : decode cX8_isSeenByCaps 61 = .ok (.iconst 2, 1) := by decide +kernel
theorem dX8_isSeenByCaps_62 : decode cX8_isSeenByCaps 62 = .ok (.iload_n 3, 1) := by decide +kernel
theorem dX8_isSeenByCaps_63 : decode cX8_isSeenByCaps 63 = .ok (.iastore, 1) := by decide +kernel
theorem dX8_isSeenByCaps_64 : decode cX8_isSeenByCaps 64 = .ok (.iconst 0, 1) := by decide +kernel
theorem dX8_isSeenByCaps_65 : decode cX8_isSeenByCaps 65 = .ok (.ireturn, 1) := by decide +kernel
theorem dX8_isSeenByCaps_66 : decode cX8_isSeenByCaps 66 = .ok (.iinc 3 1, 3) := by decide +kernel
theorem dX8_isSeenByCaps_69 : decode cX8_isSeenByCaps 69 = .ok (.goto (-48), 3) := by decide +kernel
theorem dX8_isSeenByCaps_72 : decode cX8_isSeenByCaps 72 = .ok (.iconst 1, 1) := by decide +kernel
theorem dX8_isSeenByCaps_73 : decode cX8_isSeenByCaps 73 = .ok (.ireturn, 1) := by decide +kernel
theorem dX8_gatherNeeds_0 : decode cX8_gatherNeeds 0 = .ok (.aload_n 0, 1) := by decide +kernel
theorem dX8_gatherNeeds_1 : decode cX8_gatherNeeds 1 = .ok (.getfield 31, 3) := by decide +kernel
theorem dX8_gatherNeeds_4 : decode cX8_gatherNeeds 4 = .ok (.invokevirtual 107, 3) := by decide +kernel
theorem dX8_gatherNeeds_7 : decode cX8_gatherNeeds 7 = .ok (.iconst 0, 1) := by decide +kernel
theorem dX8_gatherNeeds_8 : decode cX8_gatherNeeds 8 = .ok (.istore_n 2, 1) := by decide +kernel
theorem dX8_gatherNeeds_9 : decode cX8_gatherNeeds 9 = .ok (.iconst 0, 1) := by decide +kernel
theorem dX8_gatherNeeds_10 : decode cX8_gatherNeeds 10 = .ok (.istore_n 3, 1) := by decide +kernel
theorem dX8_gatherNeeds_11 : decode cX8_gatherNeeds 11 = .ok (.iload_n 3, 1) := by decide +kernel
theorem dX8_gatherNeeds_12 : decode cX8_gatherNeeds 12 = .ok (.aload_n 1, 1) := by decide +kernel
theorem dX8_gatherNeeds_13 : decode cX8_gatherNeeds 13 = .ok (.getfield 64, 3) := by decide +kernel
theorem dX8_gatherNeeds_16 : decode cX8_gatherNeeds 16 = .ok (.if_icmp .ge 34, 3) := by decide +kernel
theorem dX8_gatherNeeds_19 : decode cX8_gatherNeeds 19 = .ok (.iload_n 2, 1) := by decide +kernel
theorem dX8_gatherNeeds_20 : decode cX8_gatherNeeds 20 = .ok (.aload_n 0, 1) := by decide +kernel
theorem dX8_gatherNeeds_21 : decode cX8_gatherNeeds 21 = .ok (.getfield 9, 3) := by decide +kernel
theorem dX8_gatherNeeds_24 : decode cX8_gatherNeeds 24 = .ok (.iload_n 3, 1) := by decide +kernel
theorem dX8_gatherNeeds_25 : decode cX8_gatherNeeds 25 = .ok (.iaload, 1) := by decide +kernel
theorem dX8_gatherNeeds_26 : decode cX8_gatherNeeds 26 = .ok (.aload_n 1, 1) := by decide +kernel
theorem dX8_gatherNeeds_27 : decode cX8_gatherNeeds 27 = .ok (.getfield 86, 3) := by decide +kernel
theorem dX8_gatherNeeds_30 : decode cX8_gatherNeeds 30 = .ok (.iload_n 3, 1) := by decide +kernel
theorem dX8_gatherNeeds_31 : decode cX8_gatherNeeds 31 = .ok (.iaload, 1) := by decide +kernel
theorem dX8_gatherNeeds_32 : decode cX8_gatherNeeds 32 = .ok (.if_icmp .ne 9, 3) := by decide +kernel
theorem dX8_gatherNeeds_35 : decode cX8_gatherNeeds 35 = .ok (.iconst 1, 1) := by decide +kernel
theorem dX8_gatherNeeds_36 : decode cX8_gatherNeeds 36 = .ok (.iload_n 3, 1) := by decide +kernel
theorem dX8_gatherNeeds_37 : decode cX8_gatherNeeds 37 = .ok (.ishl, 1) := by decide +kernel
theorem dX8_gatherNeeds_38 : decode cX8_gatherNeeds 38 = .ok (.goto 4, 3) := by decide +kernel
theorem dX8_gatherNeeds_41 : decode cX8_gatherNeeds 41 = .ok (.iconst 0, 1) := by decide +kernel
theorem dX8_gatherNeeds_42 : decode cX8_gatherNeeds 42 = .ok (.ior, 1) := by decide +kernel
theorem dX8_gatherNeeds_43 : decode cX8_gatherNeeds 43 = .ok (.istore_n 2, 1) := by decide +kernel
theorem dX8_gatherNeeds_44 : decode cX8_gatherNeeds 44 = .ok (.iinc 3 1, 3) := by decide +kernel
theorem dX8_gatherNeeds_47 : decode cX8_gatherNeeds 47 = .ok (.goto (-36), 3) := by decide +kernel
theorem dX8_gatherNeeds_50 : decode cX8_gatherNeeds 50 = .ok (.iconst 0, 1) := by decide +kernel
theorem dX8_gatherNeeds_51 : decode cX8_gatherNeeds 51 = .ok (.istore_n 3, 1) := by decide +kernel
theorem dX8_gatherNeeds_52 : decode cX8_gatherNeeds 52 = .ok (.iload_n 3, 1) := by decide +kernel
theorem dX8_gatherNeeds_53 : decode cX8_gatherNeeds 53 = .ok (.aload_n 1, 1) := by decide +kernel
theorem dX8_gatherNeeds_54 : decode cX8_gatherNeeds 54 = .ok (.getfield 57, 3) := by decide +kernel
theorem dX8_gatherNeeds_57 : decode cX8_gatherNeeds 57 = .ok (.if_icmp .ge 24, 3) := by decide +kernel
theorem dX8_gatherNeeds_60 : decode cX8_gatherNeeds 60 = .ok (.aload_n 0, 1) := by decide +kernel
theorem dX8_gatherNeeds_61 : decode cX8_gatherNeeds 61 = .ok (.iload_n 3, 1) := by decide +kernel
theorem dX8_gatherNeeds_62 : decode cX8_gatherNeeds 62 = .ok (.invokevirtual 70, 3) := by decide +kernel
theorem dX8_gatherNeeds_65 : decode cX8_gatherNeeds 65 = .ok (.ifCond .eq 10, 3) := by decide +kernel
theorem dX8_gatherNeeds_68 : decode cX8_gatherNeeds 68 = .ok (.aload_n 0, 1) := by decide +kernel
theorem dX8_gatherNeeds_69 : decode cX8_gatherNeeds 69 = .ok (.aload_n 1, 1) := by decide +kernel
theorem dX8_gatherNeeds_70 : decode cX8_gatherNeeds 70 = .ok (.iload_n 3, 1) := by decide +kernel
theorem dX8_gatherNeeds_71 : decode cX8_gatherNeeds 71 = .ok (.iload_n 2, 1) := by decide +kernel
theorem dX8_gatherNeeds_72 : decode cX8_gatherNeeds 72 = .ok (.invokevirtual 110, 3) := by decide +kernel
theorem dX8_gatherNeeds_75 : decode cX8_gatherNeeds 75 = .ok (.iinc 3 1, 3) := by decide +kernel
theorem dX8_gatherNeeds_78 : decode cX8_gatherNeeds 78 = .ok (.goto (-26), 3) := by decide +kernel
theorem dX8_gatherNeeds_81 : decode cX8_gatherNeeds 81 = .ok (.aload_n 0, 1) := by decide +kernel
theorem dX8_gatherNeeds_82 : decode cX8_gatherNeeds 82 = .ok (.getfield 31, 3) := by decide +kernel
theorem dX8_gatherNeeds_85 : decode cX8_gatherNeeds 85 = .ok (.invokevirtual 114, 3) := by decide +kernel
theorem dX8_gatherNeeds_88 : decode cX8_gatherNeeds 88 = .ok (.return_, 1) := by decide +kernel
theorem dX8_gatherNeedsOf_0 : decode cX8_gatherNeedsOf 0 = .ok (.aload_n 0, 1) := by decide +kernel
theorem dX8_gatherNeedsOf_1 : decode cX8_gatherNeedsOf 1 = .ok (.getfield 21, 3) := by decide +kernel
theorem dX8_gatherNeedsOf_4 : decode cX8_gatherNeedsOf 4 = .ok (.iconst 0, 1) := by decide +kernel
theorem dX8_gatherNeedsOf_5 : decode cX8_gatherNeedsOf 5 = .ok (.invokestatic 89, 3) := by decide +kernel
theorem dX8_gatherNeedsOf_8 : decode cX8_gatherNeedsOf 8 = .ok (.iconst 0, 1) := by decide +kernel
theorem dX8_gatherNeedsOf_9 : decode cX8_gatherNeedsOf 9 = .ok (.istore 4, 2) := by decide +kernel
theorem dX8_gatherNeedsOf_11 : decode cX8_gatherNeedsOf 11 = .ok (.iload 4, 2) := by decide +kernel
theorem dX8_gatherNeedsOf_13 : decode cX8_gatherNeedsOf 13 = .ok (.aload_n 1, 1) := by decide +kernel
theorem dX8_gatherNeedsOf_14 : decode cX8_gatherNeedsOf 14 = .ok (.getfield 64, 3) := by decide +kernel
theorem dX8_gatherNeedsOf_17 : decode cX8_gatherNeedsOf 17 = .ok (.if_icmp .ge 63, 3) := by decide +kernel
theorem dX8_gatherNeedsOf_20 : decode cX8_gatherNeedsOf 20 = .ok (.aload_n 1, 1) := by decide +kernel
theorem dX8_gatherNeedsOf_21 : decode cX8_gatherNeedsOf 21 = .ok (.aload_n 1, 1) := by decide +kernel
theorem dX8_gatherNeedsOf_22 : decode cX8_gatherNeedsOf 22 = .ok (.getfield 74, 3) := by decide +kernel
theorem dX8_gatherNeedsOf_25 : decode cX8_gatherNeedsOf 25 = .ok (.iload_n 2, 1) := by decide +kernel
theorem dX8_gatherNeedsOf_26 : decode cX8_gatherNeedsOf 26 = .ok (.iaload, 1) := by decide +kernel
theorem dX8_gatherNeedsOf_27 : decode cX8_gatherNeedsOf 27 = .ok (.iload 4, 2) := by decide +kernel
theorem dX8_gatherNeedsOf_29 : decode cX8_gatherNeedsOf 29 = .ok (.invokevirtual 77, 3) := by decide +kernel
theorem dX8_gatherNeedsOf_32 : decode cX8_gatherNeedsOf 32 = .ok (.istore 5, 2) := by decide +kernel
theorem dX8_gatherNeedsOf_34 : decode cX8_gatherNeedsOf 34 = .ok (.aload_n 0, 1) := by decide +kernel
theorem dX8_gatherNeedsOf_35 : decode cX8_gatherNeedsOf 35 = .ok (.getfield 21, 3) := by decide +kernel
theorem dX8_gatherNeedsOf_38 : decode cX8_gatherNeedsOf 38 = .ok (.iload 5, 2) := by decide +kernel
theorem dX8_gatherNeedsOf_40 : decode cX8_gatherNeedsOf 40 = .ok (.dup2, 1) := by decide +kernel
theorem dX8_gatherNeedsOf_41 : decode cX8_gatherNeedsOf 41 = .ok (.iaload, 1) := by decide +kernel
theorem dX8_gatherNeedsOf_42 : decode cX8_gatherNeedsOf 42 = .ok (.aload_n 0, 1) := by decide +kernel
theorem dX8_gatherNeedsOf_43 : decode cX8_gatherNeedsOf 43 = .ok (.getfield 9, 3) := by decide +kernel
theorem dX8_gatherNeedsOf_46 : decode cX8_gatherNeedsOf 46 = .ok (.iload 4, 2) := by decide +kernel
theorem dX8_gatherNeedsOf_48 : decode cX8_gatherNeedsOf 48 = .ok (.iaload, 1) := by decide +kernel
theorem dX8_gatherNeedsOf_49 : decode cX8_gatherNeedsOf 49 = .ok (.aload_n 0, 1) := by decide +kernel
theorem dX8_gatherNeedsOf_50 : decode cX8_gatherNeedsOf 50 = .ok (.getfield 18, 3) := by decide +kernel
theorem dX8_gatherNeedsOf_53 : decode cX8_gatherNeedsOf 53 = .ok (.iload_n 2, 1) := by decide +kernel
theorem dX8_gatherNeedsOf_54 : decode cX8_gatherNeedsOf 54 = .ok (.bipush 9, 2) := by decide +kernel
theorem dX8_gatherNeedsOf_56 : decode cX8_gatherNeedsOf 56 = .ok (.imul, 1) := by decide +kernel
theorem dX8_gatherNeedsOf_57 : decode cX8_gatherNeedsOf 57 = .ok (.iload 5, 2) := by decide +kernel
theorem dX8_gatherNeedsOf_59 : decode cX8_gatherNeedsOf 59 = .ok (.iadd, 1) := by decide +kernel
theorem dX8_gatherNeedsOf_60 : decode cX8_gatherNeedsOf 60 = .ok (.iaload, 1) := by decide +kernel
theorem dX8_gatherNeedsOf_61 : decode cX8_gatherNeedsOf 61 = .ok (.if_icmp .ne 10, 3) := by decide +kernel
theorem dX8_gatherNeedsOf_64 : decode cX8_gatherNeedsOf 64 = .ok (.iconst 1, 1) := by decide +kernel
theorem dX8_gatherNeedsOf_65 : decode cX8_gatherNeedsOf 65 = .ok (.iload 4, 2) := by decide +kernel
theorem dX8_gatherNeedsOf_67 : decode cX8_gatherNeedsOf 67 = .ok (.ishl, 1) := by decide +kernel
theorem dX8_gatherNeedsOf_68 : decode cX8_gatherNeedsOf 68 = .ok (.goto 4, 3) := by decide +kernel
theorem dX8_gatherNeedsOf_71 : decode cX8_gatherNeedsOf 71 = .ok (.iconst 0, 1) := by decide +kernel
theorem dX8_gatherNeedsOf_72 : decode cX8_gatherNeedsOf 72 = .ok (.ior, 1) := by decide +kernel
theorem dX8_gatherNeedsOf_73 : decode cX8_gatherNeedsOf 73 = .ok (.iastore, 1) := by decide +kernel
theorem dX8_gatherNeedsOf_74 : decode cX8_gatherNeedsOf 74 = .ok (.iinc 4 1, 3) := by decide +kernel
theorem dX8_gatherNeedsOf_77 : decode cX8_gatherNeedsOf 77 = .ok (.goto (-66), 3) := by decide +kernel
theorem dX8_gatherNeedsOf_80 : decode cX8_gatherNeedsOf 80 = .ok (.iconst 0, 1) := by decide +kernel
theorem dX8_gatherNeedsOf_81 : decode cX8_gatherNeedsOf 81 = .ok (.istore 4, 2) := by decide +kernel
theorem dX8_gatherNeedsOf_83 : decode cX8_gatherNeedsOf 83 = .ok (.iload 4, 2) := by decide +kernel
theorem dX8_gatherNeedsOf_85 : decode cX8_gatherNeedsOf 85 = .ok (.aload_n 1, 1) := by decide +kernel
theorem dX8_gatherNeedsOf_86 : decode cX8_gatherNeedsOf 86 = .ok (.iload_n 2, 1) := by decide +kernel
theorem dX8_gatherNeedsOf_87 : decode cX8_gatherNeedsOf 87 = .ok (.invokevirtual 103, 3) := by decide +kernel
theorem dX8_gatherNeedsOf_90 : decode cX8_gatherNeedsOf 90 = .ok (.if_icmp .ge 43, 3) := by decide +kernel
theorem dX8_gatherNeedsOf_93 : decode cX8_gatherNeedsOf 93 = .ok (.aload_n 0, 1) := by decide +kernel
theorem dX8_gatherNeedsOf_94 : decode cX8_gatherNeedsOf 94 = .ok (.getfield 21, 3) := by decide +kernel
theorem dX8_gatherNeedsOf_97 : decode cX8_gatherNeedsOf 97 = .ok (.iload 4, 2) := by decide +kernel
theorem dX8_gatherNeedsOf_99 : decode cX8_gatherNeedsOf 99 = .ok (.iaload, 1) := by decide +kernel
theorem dX8_gatherNeedsOf_100 : decode cX8_gatherNeedsOf 100 = .ok (.iload_n 3, 1) := by decide +kernel
theorem dX8_gatherNeedsOf_101 : decode cX8_gatherNeedsOf 101 = .ok (.iand, 1) := by decide +kernel
theorem dX8_gatherNeedsOf_102 : decode cX8_gatherNeedsOf 102 = .ok (.ifCond .ne 25, 3) := by decide +kernel
theorem dX8_gatherNeedsOf_105 : decode cX8_gatherNeedsOf 105 = .ok (.aload_n 0, 1) := by decide +kernel
theorem dX8_gatherNeedsOf_106 : decode cX8_gatherNeedsOf 106 = .ok (.getfield 31, 3) := by decide +kernel
theorem dX8_gatherNeedsOf_109 : decode cX8_gatherNeedsOf 109 = .ok (.aload_n 0, 1) := by decide +kernel
theorem dX8_gatherNeedsOf_110 : decode cX8_gatherNeedsOf 110 = .ok (.getfield 21, 3) := by decide +kernel
theorem dX8_gatherNeedsOf_113 : decode cX8_gatherNeedsOf 113 = .ok (.iload 4, 2) := by decide +kernel
theorem dX8_gatherNeedsOf_115 : decode cX8_gatherNeedsOf 115 = .ok (.iaload, 1) := by decide +kernel
theorem dX8_gatherNeedsOf_116 : decode cX8_gatherNeedsOf 116 = .ok (.aload_n 1, 1) := by decide +kernel
theorem dX8_gatherNeedsOf_117 : decode cX8_gatherNeedsOf 117 = .ok (.getfield 74, 3) := by decide +kernel
theorem dX8_gatherNeedsOf_120 : decode cX8_gatherNeedsOf 120 = .ok (.iload_n 2, 1) := by decide +kernel
theorem dX8_gatherNeedsOf_121 : decode cX8_gatherNeedsOf 121 = .ok (.iaload, 1) := by decide +kernel
theorem dX8_gatherNeedsOf_122 : decode cX8_gatherNeedsOf 122 = .ok (.iconst 4, 1) := by decide +kernel
theorem dX8_gatherNeedsOf_123 : decode cX8_gatherNeedsOf 123 = .ok (.irem, 1) := by decide +kernel
theorem dX8_gatherNeedsOf_124 : decode cX8_gatherNeedsOf 124 = .ok (.invokevirtual 117, 3) := by decide +kernel
theorem dX8_gatherNeedsOf_127 : decode cX8_gatherNeedsOf 127 = .ok (.iinc 4 1, 3) := by decide +kernel
theorem dX8_gatherNeedsOf_130 : decode cX8_gatherNeedsOf 130 = .ok (.goto (-47), 3) := by decide +kernel
theorem dX8_gatherNeedsOf_133 : decode cX8_gatherNeedsOf 133 = .ok (.return_, 1) := by decide +kernel
theorem dX8_cheapestTown_0 : decode cX8_cheapestTown 0 = .ok (.aload_n 0, 1) := by decide +kernel
theorem dX8_cheapestTown_1 : decode cX8_cheapestTown 1 = .ok (.aload_n 1, 1) := by decide +kernel
theorem dX8_cheapestTown_2 : decode cX8_cheapestTown 2 = .ok (.invokevirtual 121, 3) := by decide +kernel
theorem dX8_cheapestTown_5 : decode cX8_cheapestTown 5 = .ok (.iconst 0, 1) := by decide +kernel
theorem dX8_cheapestTown_6 : decode cX8_cheapestTown 6 = .ok (.istore_n 3, 1) := by decide +kernel
theorem dX8_cheapestTown_7 : decode cX8_cheapestTown 7 = .ok (.iload_n 3, 1) := by decide +kernel
theorem dX8_cheapestTown_8 : decode cX8_cheapestTown 8 = .ok (.aload_n 1, 1) := by decide +kernel
theorem dX8_cheapestTown_9 : decode cX8_cheapestTown 9 = .ok (.getfield 64, 3) := by decide +kernel
theorem dX8_cheapestTown_12 : decode cX8_cheapestTown 12 = .ok (.if_icmp .ge 51, 3) := by decide +kernel
theorem dX8_cheapestTown_15 : decode cX8_cheapestTown 15 = .ok (.aload_n 0, 1) := by decide +kernel
theorem dX8_cheapestTown_16 : decode cX8_cheapestTown 16 = .ok (.getfield 9, 3) := by decide +kernel
theorem dX8_cheapestTown_19 : decode cX8_cheapestTown 19 = .ok (.iload_n 3, 1) := by decide +kernel
theorem dX8_cheapestTown_20 : decode cX8_cheapestTown 20 = .ok (.iaload, 1) := by decide +kernel
theorem dX8_cheapestTown_21 : decode cX8_cheapestTown 21 = .ok (.aload_n 1, 1) := by decide +kernel
theorem dX8_cheapestTown_22 : decode cX8_cheapestTown 22 = .ok (.getfield 86, 3) := by decide +kernel
theorem dX8_cheapestTown_25 : decode cX8_cheapestTown 25 = .ok (.iload_n 3, 1) := by decide +kernel
theorem dX8_cheapestTown_26 : decode cX8_cheapestTown 26 = .ok (.iaload, 1) := by decide +kernel
theorem dX8_cheapestTown_27 : decode cX8_cheapestTown 27 = .ok (.isub, 1) := by decide +kernel
theorem dX8_cheapestTown_28 : decode cX8_cheapestTown 28 = .ok (.i2l, 1) := by decide +kernel
theorem dX8_cheapestTown_29 : decode cX8_cheapestTown 29 = .ok (.aload_n 1, 1) := by decide +kernel
theorem dX8_cheapestTown_30 : decode cX8_cheapestTown 30 = .ok (.getfield 124, 3) := by decide +kernel
theorem dX8_cheapestTown_33 : decode cX8_cheapestTown 33 = .ok (.iload_n 3, 1) := by decide +kernel
theorem dX8_cheapestTown_34 : decode cX8_cheapestTown 34 = .ok (.iaload, 1) := by decide +kernel
theorem dX8_cheapestTown_35 : decode cX8_cheapestTown 35 = .ok (.i2l, 1) := by decide +kernel
theorem dX8_cheapestTown_36 : decode cX8_cheapestTown 36 = .ok (.lmul, 1) := by decide +kernel
theorem dX8_cheapestTown_37 : decode cX8_cheapestTown 37 = .ok (.lstore 4, 2) := by decide +kernel
theorem dX8_cheapestTown_39 : decode cX8_cheapestTown 39 = .ok (.aload_n 0, 1) := by decide +kernel
theorem dX8_cheapestTown_40 : decode cX8_cheapestTown 40 = .ok (.getfield 24, 3) := by decide +kernel
theorem dX8_cheapestTown_43 : decode cX8_cheapestTown 43 = .ok (.iload_n 3, 1) := by decide +kernel
theorem dX8_cheapestTown_44 : decode cX8_cheapestTown 44 = .ok (.lload 4, 2) := by decide +kernel
theorem dX8_cheapestTown_46 : decode cX8_cheapestTown 46 = .ok (.bipush 25, 2) := by decide +kernel
theorem dX8_cheapestTown_48 : decode cX8_cheapestTown 48 = .ok (.lshl, 1) := by decide +kernel
theorem dX8_cheapestTown_49 : decode cX8_cheapestTown 49 = .ok (.lconst 1, 1) := by decide +kernel
theorem dX8_cheapestTown_50 : decode cX8_cheapestTown 50 = .ok (.bipush 24, 2) := by decide +kernel
theorem dX8_cheapestTown_52 : decode cX8_cheapestTown 52 = .ok (.iload_n 3, 1) := by decide +kernel
theorem dX8_cheapestTown_53 : decode cX8_cheapestTown 53 = .ok (.isub, 1) := by decide +kernel
theorem dX8_cheapestTown_54 : decode cX8_cheapestTown 54 = .ok (.lshl, 1) := by decide +kernel
theorem dX8_cheapestTown_55 : decode cX8_cheapestTown 55 = .ok (.lor, 1) := by decide +kernel
theorem dX8_cheapestTown_56 : decode cX8_cheapestTown 56 = .ok (.lastore, 1) := by decide +kernel
theorem dX8_cheapestTown_57 : decode cX8_cheapestTown 57 = .ok (.iinc 3 1, 3) := by decide +kernel
theorem dX8_cheapestTown_60 : decode cX8_cheapestTown 60 = .ok (.goto (-53), 3) := by decide +kernel
theorem dX8_cheapestTown_63 : decode cX8_cheapestTown 63 = .ok (.aload_n 0, 1) := by decide +kernel
theorem dX8_cheapestTown_64 : decode cX8_cheapestTown 64 = .ok (.getfield 31, 3) := by decide +kernel
theorem dX8_cheapestTown_67 : decode cX8_cheapestTown 67 = .ok (.aload_n 0, 1) := by decide +kernel
theorem dX8_cheapestTown_68 : decode cX8_cheapestTown 68 = .ok (.getfield 24, 3) := by decide +kernel
theorem dX8_cheapestTown_71 : decode cX8_cheapestTown 71 = .ok (.invokevirtual 127, 3) := by decide +kernel
theorem dX8_cheapestTown_74 : decode cX8_cheapestTown 74 = .ok (.lstore_n 3, 1) := by decide +kernel
theorem dX8_cheapestTown_75 : decode cX8_cheapestTown 75 = .ok (.iconst 0, 1) := by decide +kernel
theorem dX8_cheapestTown_76 : decode cX8_cheapestTown 76 = .ok (.istore 5, 2) := by decide +kernel
theorem dX8_cheapestTown_78 : decode cX8_cheapestTown 78 = .ok (.iload 5, 2) := by decide +kernel
theorem dX8_cheapestTown_80 : decode cX8_cheapestTown 80 = .ok (.aload_n 1, 1) := by decide +kernel
theorem dX8_cheapestTown_81 : decode cX8_cheapestTown 81 = .ok (.getfield 64, 3) := by decide +kernel
theorem dX8_cheapestTown_84 : decode cX8_cheapestTown 84 = .ok (.if_icmp .ge 56, 3) := by decide +kernel
theorem dX8_cheapestTown_87 : decode cX8_cheapestTown 87 = .ok (.lload_n 3, 1) := by decide +kernel
theorem dX8_cheapestTown_88 : decode cX8_cheapestTown 88 = .ok (.bipush 24, 2) := by decide +kernel
theorem dX8_cheapestTown_90 : decode cX8_cheapestTown 90 = .ok (.iload 5, 2) := by decide +kernel
theorem dX8_cheapestTown_92 : decode cX8_cheapestTown 92 = .ok (.isub, 1) := by decide +kernel
theorem dX8_cheapestTown_93 : decode cX8_cheapestTown 93 = .ok (.lshr, 1) := by decide +kernel
theorem dX8_cheapestTown_94 : decode cX8_cheapestTown 94 = .ok (.lconst 1, 1) := by decide +kernel
theorem dX8_cheapestTown_95 : decode cX8_cheapestTown 95 = .ok (.land, 1) := by decide +kernel
theorem dX8_cheapestTown_96 : decode cX8_cheapestTown 96 = .ok (.lconst 1, 1) := by decide +kernel
theorem dX8_cheapestTown_97 : decode cX8_cheapestTown 97 = .ok (.lcmp, 1) := by decide +kernel
theorem dX8_cheapestTown_98 : decode cX8_cheapestTown 98 = .ok (.ifCond .ne 7, 3) := by decide +kernel
theorem dX8_cheapestTown_101 : decode cX8_cheapestTown 101 = .ok (.iconst 1, 1) := by decide +kernel
theorem dX8_cheapestTown_102 : decode cX8_cheapestTown 102 = .ok (.goto 4, 3) := by decide +kernel
theorem dX8_cheapestTown_105 : decode cX8_cheapestTown 105 = .ok (.iconst 0, 1) := by decide +kernel
theorem dX8_cheapestTown_106 : decode cX8_cheapestTown 106 = .ok (.istore 6, 2) := by decide +kernel
theorem dX8_cheapestTown_108 : decode cX8_cheapestTown 108 = .ok (.aload_n 2, 1) := by decide +kernel
theorem dX8_cheapestTown_109 : decode cX8_cheapestTown 109 = .ok (.iload 5, 2) := by decide +kernel
theorem dX8_cheapestTown_111 : decode cX8_cheapestTown 111 = .ok (.iload 6, 2) := by decide +kernel
theorem dX8_cheapestTown_113 : decode cX8_cheapestTown 113 = .ok (.ifCond .eq 13, 3) := by decide +kernel
theorem dX8_cheapestTown_116 : decode cX8_cheapestTown 116 = .ok (.aload_n 0, 1) := by decide +kernel
theorem dX8_cheapestTown_117 : decode cX8_cheapestTown 117 = .ok (.getfield 9, 3) := by decide +kernel
theorem dX8_cheapestTown_120 : decode cX8_cheapestTown 120 = .ok (.iload 5, 2) := by decide +kernel
theorem dX8_cheapestTown_122 : decode cX8_cheapestTown 122 = .ok (.iaload, 1) := by decide +kernel
theorem dX8_cheapestTown_123 : decode cX8_cheapestTown 123 = .ok (.goto 10, 3) := by decide +kernel
theorem dX8_cheapestTown_126 : decode cX8_cheapestTown 126 = .ok (.aload_n 1, 1) := by decide +kernel
theorem dX8_cheapestTown_127 : decode cX8_cheapestTown 127 = .ok (.getfield 86, 3) := by decide +kernel
theorem dX8_cheapestTown_130 : decode cX8_cheapestTown 130 = .ok (.iload 5, 2) := by decide +kernel
theorem dX8_cheapestTown_132 : decode cX8_cheapestTown 132 = .ok (.iaload, 1) := by decide +kernel
theorem dX8_cheapestTown_133 : decode cX8_cheapestTown 133 = .ok (.iastore, 1) := by decide +kernel
theorem dX8_cheapestTown_134 : decode cX8_cheapestTown 134 = .ok (.iinc 5 1, 3) := by decide +kernel
theorem dX8_cheapestTown_137 : decode cX8_cheapestTown 137 = .ok (.goto (-59), 3) := by decide +kernel
theorem dX8_cheapestTown_140 : decode cX8_cheapestTown 140 = .ok (.return_, 1) := by decide +kernel
theorem dX8_fewestRaised_0 : decode cX8_fewestRaised 0 = .ok (.aload_n 0, 1) := by decide +kernel
theorem dX8_fewestRaised_1 : decode cX8_fewestRaised 1 = .ok (.aload_n 1, 1) := by decide +kernel
theorem dX8_fewestRaised_2 : decode cX8_fewestRaised 2 = .ok (.invokevirtual 121, 3) := by decide +kernel
theorem dX8_fewestRaised_5 : decode cX8_fewestRaised 5 = .ok (.aload_n 0, 1) := by decide +kernel
theorem dX8_fewestRaised_6 : decode cX8_fewestRaised 6 = .ok (.getfield 24, 3) := by decide +kernel
theorem dX8_fewestRaised_9 : decode cX8_fewestRaised 9 = .ok (.lconst 1, 1) := by decide +kernel
theorem dX8_fewestRaised_10 : decode cX8_fewestRaised 10 = .ok (.invokestatic 131, 3) := by decide +kernel
theorem dX8_fewestRaised_13 : decode cX8_fewestRaised 13 = .ok (.aload_n 0, 1) := by decide +kernel
theorem dX8_fewestRaised_14 : decode cX8_fewestRaised 14 = .ok (.getfield 31, 3) := by decide +kernel
theorem dX8_fewestRaised_17 : decode cX8_fewestRaised 17 = .ok (.aload_n 0, 1) := by decide +kernel
theorem dX8_fewestRaised_18 : decode cX8_fewestRaised 18 = .ok (.getfield 24, 3) := by decide +kernel
theorem dX8_fewestRaised_21 : decode cX8_fewestRaised 21 = .ok (.invokevirtual 127, 3) := by decide +kernel
theorem dX8_fewestRaised_24 : decode cX8_fewestRaised 24 = .ok (.l2i, 1) := by decide +kernel
theorem dX8_fewestRaised_25 : decode cX8_fewestRaised 25 = .ok (.ireturn, 1) := by decide +kernel
theorem dX8_mustRaise_0 : decode cX8_mustRaise 0 = .ok (.aload_n 0, 1) := by decide +kernel
theorem dX8_mustRaise_1 : decode cX8_mustRaise 1 = .ok (.aload_n 1, 1) := by decide +kernel
theorem dX8_mustRaise_2 : decode cX8_mustRaise 2 = .ok (.invokevirtual 121, 3) := by decide +kernel
theorem dX8_mustRaise_5 : decode cX8_mustRaise 5 = .ok (.aload_n 0, 1) := by decide +kernel
theorem dX8_mustRaise_6 : decode cX8_mustRaise 6 = .ok (.getfield 31, 3) := by decide +kernel
theorem dX8_mustRaise_9 : decode cX8_mustRaise 9 = .ok (.getfield 134, 3) := by decide +kernel
theorem dX8_mustRaise_12 : decode cX8_mustRaise 12 = .ok (.iload_n 2, 1) := by decide +kernel
theorem dX8_mustRaise_13 : decode cX8_mustRaise 13 = .ok (.ishr, 1) := by decide +kernel
theorem dX8_mustRaise_14 : decode cX8_mustRaise 14 = .ok (.iconst 1, 1) := by decide +kernel
theorem dX8_mustRaise_15 : decode cX8_mustRaise 15 = .ok (.iand, 1) := by decide +kernel
theorem dX8_mustRaise_16 : decode cX8_mustRaise 16 = .ok (.iconst 1, 1) := by decide +kernel
theorem dX8_mustRaise_17 : decode cX8_mustRaise 17 = .ok (.if_icmp .ne 7, 3) := by decide +kernel
theorem dX8_mustRaise_20 : decode cX8_mustRaise 20 = .ok (.iconst 1, 1) := by decide +kernel
theorem dX8_mustRaise_21 : decode cX8_mustRaise 21 = .ok (.goto 4, 3) := by decide +kernel
theorem dX8_mustRaise_24 : decode cX8_mustRaise 24 = .ok (.iconst 0, 1) := by decide +kernel
theorem dX8_mustRaise_25 : decode cX8_mustRaise 25 = .ok (.ireturn, 1) := by decide +kernel
theorem dX8_countTowns_0 : decode cX8_countTowns 0 = .ok (.aload_n 0, 1) := by decide +kernel
theorem dX8_countTowns_1 : decode cX8_countTowns 1 = .ok (.aload_n 1, 1) := by decide +kernel
theorem dX8_countTowns_2 : decode cX8_countTowns 2 = .ok (.invokevirtual 121, 3) := by decide +kernel
theorem dX8_countTowns_5 : decode cX8_countTowns 5 = .ok (.iconst 0, 1) := by decide +kernel
theorem dX8_countTowns_6 : decode cX8_countTowns 6 = .ok (.istore_n 2, 1) := by decide +kernel
theorem dX8_countTowns_7 : decode cX8_countTowns 7 = .ok (.iload_n 2, 1) := by decide +kernel
theorem dX8_countTowns_8 : decode cX8_countTowns 8 = .ok (.aload_n 1, 1) := by decide +kernel
theorem dX8_countTowns_9 : decode cX8_countTowns 9 = .ok (.getfield 64, 3) := by decide +kernel
theorem dX8_countTowns_12 : decode cX8_countTowns 12 = .ok (.if_icmp .ge 29, 3) := by decide +kernel
theorem dX8_countTowns_15 : decode cX8_countTowns 15 = .ok (.aload_n 0, 1) := by decide +kernel
theorem dX8_countTowns_16 : decode cX8_countTowns 16 = .ok (.getfield 24, 3) := by decide +kernel
theorem dX8_countTowns_19 : decode cX8_countTowns 19 = .ok (.iload_n 2, 1) := by decide +kernel
theorem dX8_countTowns_20 : decode cX8_countTowns 20 = .ok (.aload_n 0, 1) := by decide +kernel
theorem dX8_countTowns_21 : decode cX8_countTowns 21 = .ok (.getfield 9, 3) := by decide +kernel
theorem dX8_countTowns_24 : decode cX8_countTowns 24 = .ok (.iload_n 2, 1) := by decide +kernel
theorem dX8_countTowns_25 : decode cX8_countTowns 25 = .ok (.iaload, 1) := by decide +kernel
theorem dX8_countTowns_26 : decode cX8_countTowns 26 = .ok (.aload_n 1, 1) := by decide +kernel
theorem dX8_countTowns_27 : decode cX8_countTowns 27 = .ok (.getfield 86, 3) := by decide +kernel
theorem dX8_countTowns_30 : decode cX8_countTowns 30 = .ok (.iload_n 2, 1) := by decide +kernel
theorem dX8_countTowns_31 : decode cX8_countTowns 31 = .ok (.iaload, 1) := by decide +kernel
theorem dX8_countTowns_32 : decode cX8_countTowns 32 = .ok (.isub, 1) := by decide +kernel
theorem dX8_countTowns_33 : decode cX8_countTowns 33 = .ok (.i2l, 1) := by decide +kernel
theorem dX8_countTowns_34 : decode cX8_countTowns 34 = .ok (.lastore, 1) := by decide +kernel
theorem dX8_countTowns_35 : decode cX8_countTowns 35 = .ok (.iinc 2 1, 3) := by decide +kernel
theorem dX8_countTowns_38 : decode cX8_countTowns 38 = .ok (.goto (-31), 3) := by decide +kernel
theorem dX8_countTowns_41 : decode cX8_countTowns 41 = .ok (.aload_n 0, 1) := by decide +kernel
theorem dX8_countTowns_42 : decode cX8_countTowns 42 = .ok (.getfield 31, 3) := by decide +kernel
theorem dX8_countTowns_45 : decode cX8_countTowns 45 = .ok (.aload_n 1, 1) := by decide +kernel
theorem dX8_countTowns_46 : decode cX8_countTowns 46 = .ok (.getfield 64, 3) := by decide +kernel
theorem dX8_countTowns_49 : decode cX8_countTowns 49 = .ok (.aload_n 0, 1) := by decide +kernel
theorem dX8_countTowns_50 : decode cX8_countTowns 50 = .ok (.getfield 24, 3) := by decide +kernel
theorem dX8_countTowns_53 : decode cX8_countTowns 53 = .ok (.invokevirtual 137, 3) := by decide +kernel
theorem dX8_countTowns_56 : decode cX8_countTowns 56 = .ok (.l2i, 1) := by decide +kernel
theorem dX8_countTowns_57 : decode cX8_countTowns 57 = .ok (.ireturn, 1) := by decide +kernel
theorem dX9_init_0 : decode cX9_init 0 = .ok (.aload_n 0, 1) := by decide +kernel
theorem dX9_init_1 : decode cX9_init 1 = .ok (.invokespecial 3, 3) := by decide +kernel
theorem dX9_init_4 : decode cX9_init 4 = .ok (.aload_n 0, 1) := by decide +kernel
theorem dX9_init_5 : decode cX9_init 5 = .ok (.bipush 60, 2) := by decide +kernel
theorem dX9_init_7 : decode cX9_init 7 = .ok (.newarray .long, 2) := by decide +kernel
theorem dX9_init_9 : decode cX9_init 9 = .ok (.putfield 9, 3) := by decide +kernel
theorem dX9_init_12 : decode cX9_init 12 = .ok (.return_, 1) := by decide +kernel
theorem dX9_lay_0 : decode cX9_lay 0 = .ok (.aload_n 0, 1) := by decide +kernel
theorem dX9_lay_1 : decode cX9_lay 1 = .ok (.iconst 1, 1) := by decide +kernel
theorem dX9_lay_2 : decode cX9_lay 2 = .ok (.putfield 15, 3) := by decide +kernel
theorem dX9_lay_5 : decode cX9_lay 5 = .ok (.aload_n 0, 1) := by decide +kernel
theorem dX9_lay_6 : decode cX9_lay 6 = .ok (.iload_n 1, 1) := by decide +kernel
theorem dX9_lay_7 : decode cX9_lay 7 = .ok (.putfield 19, 3) := by decide +kernel
theorem dX9_lay_10 : decode cX9_lay 10 = .ok (.aload_n 0, 1) := by decide +kernel
theorem dX9_lay_11 : decode cX9_lay 11 = .ok (.iload_n 2, 1) := by decide +kernel
theorem dX9_lay_12 : decode cX9_lay 12 = .ok (.putfield 23, 3) := by decide +kernel
theorem dX9_lay_15 : decode cX9_lay 15 = .ok (.aload_n 0, 1) := by decide +kernel
theorem dX9_lay_16 : decode cX9_lay 16 = .ok (.getfield 9, 3) := by decide +kernel
theorem dX9_lay_19 : decode cX9_lay 19 = .ok (.lconst 0, 1) := by decide +kernel
theorem dX9_lay_20 : decode cX9_lay 20 = .ok (.invokestatic 26, 3) := by decide +kernel
theorem dX9_lay_23 : decode cX9_lay 23 = .ok (.return_, 1) := by decide +kernel
theorem dX9_hasPlaces_0 : decode cX9_hasPlaces 0 = .ok (.iload_n 1, 1) := by decide +kernel
theorem dX9_hasPlaces_1 : decode cX9_hasPlaces 1 = .ok (.ifCond .lt 25, 3) := by decide +kernel
theorem dX9_hasPlaces_4 : decode cX9_hasPlaces 4 = .ok (.iload_n 2, 1) := by decide +kernel
theorem dX9_hasPlaces_5 : decode cX9_hasPlaces 5 = .ok (.ifCond .lt 21, 3) := by decide +kernel
theorem dX9_hasPlaces_8 : decode cX9_hasPlaces 8 = .ok (.iload_n 1, 1) := by decide +kernel
theorem dX9_hasPlaces_9 : decode cX9_hasPlaces 9 = .ok (.i2l, 1) := by decide +kernel
theorem dX9_hasPlaces_10 : decode cX9_hasPlaces 10 = .ok (.iload_n 2, 1) := by decide +kernel
theorem dX9_hasPlaces_11 : decode cX9_hasPlaces 11 = .ok (.i2l, 1) := by decide +kernel
theorem dX9_hasPlaces_12 : decode cX9_hasPlaces 12 = .ok (.ladd, 1) := by decide +kernel
theorem dX9_hasPlaces_13 : decode cX9_hasPlaces 13 = .ok (.aload_n 0, 1) := by decide +kernel
theorem dX9_hasPlaces_14 : decode cX9_hasPlaces 14 = .ok (.getfield 23, 3) := by decide +kernel
theorem dX9_hasPlaces_17 : decode cX9_hasPlaces 17 = .ok (.i2l, 1) := by decide +kernel
theorem dX9_hasPlaces_18 : decode cX9_hasPlaces 18 = .ok (.lcmp, 1) := by decide +kernel
theorem dX9_hasPlaces_19 : decode cX9_hasPlaces 19 = .ok (.ifCond .gt 7, 3) := by decide +kernel
theorem dX9_hasPlaces_22 : decode cX9_hasPlaces 22 = .ok (.iconst 1, 1) := by decide +kernel
theorem dX9_hasPlaces_23 : decode cX9_hasPlaces 23 = .ok (.goto 4, 3) := by decide +kernel
theorem dX9_hasPlaces_26 : decode cX9_hasPlaces 26 = .ok (.iconst 0, 1) := by decide +kernel
theorem dX9_hasPlaces_27 : decode cX9_hasPlaces 27 = .ok (.ireturn, 1) := by decide +kernel
theorem dX9_put_0 : decode cX9_put 0 = .ok (.aload_n 0, 1) := by decide +kernel
theorem dX9_put_1 : decode cX9_put 1 = .ok (.getfield 19, 3) := by decide +kernel
theorem dX9_put_4 : decode cX9_put 4 = .ok (.tableswitch 66 0 2 #[28, 41, 54], 28) := by decide +kernel
theorem dX9_put_32 : decode cX9_put 32 = .ok (.aload_n 0, 1) := by decide +kernel
theorem dX9_put_33 : decode cX9_put 33 = .ok (.getfield 9, 3) := by decide +kernel
theorem dX9_put_36 : decode cX9_put 36 = .ok (.iload_n 1, 1) := by decide +kernel
theorem dX9_put_37 : decode cX9_put 37 = .ok (.lload_n 2, 1) := by decide +kernel
theorem dX9_put_38 : decode cX9_put 38 = .ok (.l2i, 1) := by decide +kernel
theorem dX9_put_39 : decode cX9_put 39 = .ok (.i2b, 1) := by decide +kernel
theorem dX9_put_40 : decode cX9_put 40 = .ok (.i2l, 1) := by decide +kernel
theorem dX9_put_41 : decode cX9_put 41 = .ok (.lastore, 1) := by decide +kernel
theorem dX9_put_42 : decode cX9_put 42 = .ok (.goto 35, 3) := by decide +kernel
theorem dX9_put_45 : decode cX9_put 45 = .ok (.aload_n 0, 1) := by decide +kernel
theorem dX9_put_46 : decode cX9_put 46 = .ok (.getfield 9, 3) := by decide +kernel
theorem dX9_put_49 : decode cX9_put 49 = .ok (.iload_n 1, 1) := by decide +kernel
theorem dX9_put_50 : decode cX9_put 50 = .ok (.lload_n 2, 1) := by decide +kernel
theorem dX9_put_51 : decode cX9_put 51 = .ok (.l2i, 1) := by decide +kernel
theorem dX9_put_52 : decode cX9_put 52 = .ok (.i2s, 1) := by decide +kernel
theorem dX9_put_53 : decode cX9_put 53 = .ok (.i2l, 1) := by decide +kernel
theorem dX9_put_54 : decode cX9_put 54 = .ok (.lastore, 1) := by decide +kernel
theorem dX9_put_55 : decode cX9_put 55 = .ok (.goto 22, 3) := by decide +kernel
theorem dX9_put_58 : decode cX9_put 58 = .ok (.aload_n 0, 1) := by decide +kernel
theorem dX9_put_59 : decode cX9_put 59 = .ok (.getfield 9, 3) := by decide +kernel
theorem dX9_put_62 : decode cX9_put 62 = .ok (.iload_n 1, 1) := by decide +kernel
theorem dX9_put_63 : decode cX9_put 63 = .ok (.lload_n 2, 1) := by decide +kernel
theorem dX9_put_64 : decode cX9_put 64 = .ok (.l2i, 1) := by decide +kernel
theorem dX9_put_65 : decode cX9_put 65 = .ok (.i2l, 1) := by decide +kernel
theorem dX9_put_66 : decode cX9_put 66 = .ok (.lastore, 1) := by decide +kernel
theorem dX9_put_67 : decode cX9_put 67 = .ok (.goto 10, 3) := by decide +kernel
theorem dX9_put_70 : decode cX9_put 70 = .ok (.aload_n 0, 1) := by decide +kernel
theorem dX9_put_71 : decode cX9_put 71 = .ok (.getfield 9, 3) := by decide +kernel
theorem dX9_put_74 : decode cX9_put 74 = .ok (.iload_n 1, 1) := by decide +kernel
theorem dX9_put_75 : decode cX9_put 75 = .ok (.lload_n 2, 1) := by decide +kernel
theorem dX9_put_76 : decode cX9_put 76 = .ok (.lastore, 1) := by decide +kernel
theorem dX9_put_77 : decode cX9_put 77 = .ok (.return_, 1) := by decide +kernel
theorem dX9_rowStatus_0 : decode cX9_rowStatus 0 = .ok (.aload_n 0, 1) := by decide +kernel
theorem dX9_rowStatus_1 : decode cX9_rowStatus 1 = .ok (.iconst 0, 1) := by decide +kernel
theorem dX9_rowStatus_2 : decode cX9_rowStatus 2 = .ok (.iload_n 1, 1) := by decide +kernel
theorem dX9_rowStatus_3 : decode cX9_rowStatus 3 = .ok (.invokevirtual 32, 3) := by decide +kernel
theorem dX9_rowStatus_6 : decode cX9_rowStatus 6 = .ok (.ifCond .ne 5, 3) := by decide +kernel
theorem dX9_rowStatus_9 : decode cX9_rowStatus 9 = .ok (.iconst 4, 1) := by decide +kernel
theorem dX9_rowStatus_10 : decode cX9_rowStatus 10 = .ok (.ireturn, 1) := by decide +kernel
theorem dX9_rowStatus_11 : decode cX9_rowStatus 11 = .ok (.iconst 0, 1) := by decide +kernel
theorem dX9_rowStatus_12 : decode cX9_rowStatus 12 = .ok (.istore_n 2, 1) := by decide +kernel
theorem dX9_rowStatus_13 : decode cX9_rowStatus 13 = .ok (.iload_n 2, 1) := by decide +kernel
theorem dX9_rowStatus_14 : decode cX9_rowStatus 14 = .ok (.iload_n 1, 1) := by decide +kernel
theorem dX9_rowStatus_15 : decode cX9_rowStatus 15 = .ok (.if_icmp .ge 23, 3) := by decide +kernel
theorem dX9_rowStatus_18 : decode cX9_rowStatus 18 = .ok (.aload_n 0, 1) := by decide +kernel
theorem dX9_rowStatus_19 : decode cX9_rowStatus 19 = .ok (.getfield 9, 3) := by decide +kernel
theorem dX9_rowStatus_22 : decode cX9_rowStatus 22 = .ok (.iload_n 2, 1) := by decide +kernel
theorem dX9_rowStatus_23 : decode cX9_rowStatus 23 = .ok (.laload, 1) := by decide +kernel
theorem dX9_rowStatus_24 : decode cX9_rowStatus 24 = .ok (.invokestatic 36, 3) := by decide +kernel
theorem dX9_rowStatus_27 : decode cX9_rowStatus 27 = .ok (.ifCond .ne 5, 3) := by decide +kernel
theorem dX9_rowStatus_30 : decode cX9_rowStatus 30 = .ok (.iconst 5, 1) := by decide +kernel
theorem dX9_rowStatus_31 : decode cX9_rowStatus 31 = .ok (.ireturn, 1) := by decide +kernel
theorem dX9_rowStatus_32 : decode cX9_rowStatus 32 = .ok (.iinc 2 1, 3) := by decide +kernel
theorem dX9_rowStatus_35 : decode cX9_rowStatus 35 = .ok (.goto (-22), 3) := by decide +kernel
theorem dX9_rowStatus_38 : decode cX9_rowStatus 38 = .ok (.iconst 0, 1) := by decide +kernel
theorem dX9_rowStatus_39 : decode cX9_rowStatus 39 = .ok (.ireturn, 1) := by decide +kernel
theorem dX9_copyHeights_0 : decode cX9_copyHeights 0 = .ok (.iconst 0, 1) := by decide +kernel
theorem dX9_copyHeights_1 : decode cX9_copyHeights 1 = .ok (.istore 5, 2) := by decide +kernel
theorem dX9_copyHeights_3 : decode cX9_copyHeights 3 = .ok (.iload 5, 2) := by decide +kernel
theorem dX9_copyHeights_5 : decode cX9_copyHeights 5 = .ok (.iload_n 2, 1) := by decide +kernel
theorem dX9_copyHeights_6 : decode cX9_copyHeights 6 = .ok (.if_icmp .ge 26, 3) := by decide +kernel
theorem dX9_copyHeights_9 : decode cX9_copyHeights 9 = .ok (.aload_n 3, 1) := by decide +kernel
theorem dX9_copyHeights_10 : decode cX9_copyHeights 10 = .ok (.iload 4, 2) := by decide +kernel
theorem dX9_copyHeights_12 : decode cX9_copyHeights 12 = .ok (.iload 5, 2) := by decide +kernel
theorem dX9_copyHeights_14 : decode cX9_copyHeights 14 = .ok (.iadd, 1) := by decide +kernel
theorem dX9_copyHeights_15 : decode cX9_copyHeights 15 = .ok (.aload_n 0, 1) := by decide +kernel
theorem dX9_copyHeights_16 : decode cX9_copyHeights 16 = .ok (.getfield 9, 3) := by decide +kernel
theorem dX9_copyHeights_19 : decode cX9_copyHeights 19 = .ok (.iload_n 1, 1) := by decide +kernel
theorem dX9_copyHeights_20 : decode cX9_copyHeights 20 = .ok (.iload 5, 2) := by decide +kernel
theorem dX9_copyHeights_22 : decode cX9_copyHeights 22 = .ok (.iadd, 1) := by decide +kernel
theorem dX9_copyHeights_23 : decode cX9_copyHeights 23 = .ok (.laload, 1) := by decide +kernel
theorem dX9_copyHeights_24 : decode cX9_copyHeights 24 = .ok (.l2i, 1) := by decide +kernel
theorem dX9_copyHeights_25 : decode cX9_copyHeights 25 = .ok (.iastore, 1) := by decide +kernel
theorem dX9_copyHeights_26 : decode cX9_copyHeights 26 = .ok (.iinc 5 1, 3) := by decide +kernel
theorem dX9_copyHeights_29 : decode cX9_copyHeights 29 = .ok (.goto (-26), 3) := by decide +kernel
theorem dX9_copyHeights_32 : decode cX9_copyHeights 32 = .ok (.return_, 1) := by decide +kernel
theorem dX9_beginsLike_0 : decode cX9_beginsLike 0 = .ok (.iconst 0, 1) := by decide +kernel
theorem dX9_beginsLike_1 : decode cX9_beginsLike 1 = .ok (.istore_n 3, 1) := by decide +kernel
theorem dX9_beginsLike_2 : decode cX9_beginsLike 2 = .ok (.iload_n 3, 1) := by decide +kernel
theorem dX9_beginsLike_3 : decode cX9_beginsLike 3 = .ok (.iload_n 2, 1) := by decide +kernel
theorem dX9_beginsLike_4 : decode cX9_beginsLike 4 = .ok (.if_icmp .ge 25, 3) := by decide +kernel
theorem dX9_beginsLike_7 : decode cX9_beginsLike 7 = .ok (.aload_n 0, 1) := by decide +kernel
theorem dX9_beginsLike_8 : decode cX9_beginsLike 8 = .ok (.getfield 9, 3) := by decide +kernel
theorem dX9_beginsLike_11 : decode cX9_beginsLike 11 = .ok (.iload_n 3, 1) := by decide +kernel
theorem dX9_beginsLike_12 : decode cX9_beginsLike 12 = .ok (.laload, 1) := by decide +kernel
theorem dX9_beginsLike_13 : decode cX9_beginsLike 13 = .ok (.aload_n 1, 1) := by decide +kernel
theorem dX9_beginsLike_14 : decode cX9_beginsLike 14 = .ok (.iload_n 3, 1) := by decide +kernel
theorem dX9_beginsLike_15 : decode cX9_beginsLike 15 = .ok (.iaload, 1) := by decide +kernel
theorem dX9_beginsLike_16 : decode cX9_beginsLike 16 = .ok (.i2l, 1) := by decide +kernel
theorem dX9_beginsLike_17 : decode cX9_beginsLike 17 = .ok (.lcmp, 1) := by decide +kernel
theorem dX9_beginsLike_18 : decode cX9_beginsLike 18 = .ok (.ifCond .eq 5, 3) := by decide +kernel
theorem dX9_beginsLike_21 : decode cX9_beginsLike 21 = .ok (.iconst 0, 1) := by decide +kernel
theorem dX9_beginsLike_22 : decode cX9_beginsLike 22 = .ok (.ireturn, 1) := by decide +kernel
theorem dX9_beginsLike_23 : decode cX9_beginsLike 23 = .ok (.iinc 3 1, 3) := by decide +kernel
theorem dX9_beginsLike_26 : decode cX9_beginsLike 26 = .ok (.goto (-24), 3) := by decide +kernel
theorem dX9_beginsLike_29 : decode cX9_beginsLike 29 = .ok (.iconst 1, 1) := by decide +kernel
theorem dX9_beginsLike_30 : decode cX9_beginsLike 30 = .ok (.ireturn, 1) := by decide +kernel
theorem dX10_init_0 : decode cX10_init 0 = .ok (.aload_n 0, 1) := by decide +kernel
theorem dX10_init_1 : decode cX10_init 1 = .ok (.invokespecial 3, 3) := by decide +kernel
theorem dX10_init_4 : decode cX10_init 4 = .ok (.aload_n 0, 1) := by decide +kernel
theorem dX10_init_5 : decode cX10_init 5 = .ok (.new 9, 3) := by decide +kernel
theorem dX10_init_8 : decode cX10_init 8 = .ok (.dup, 1) := by decide +kernel
theorem dX10_init_9 : decode cX10_init 9 = .ok (.invokespecial 11, 3) := by decide +kernel
theorem dX10_init_12 : decode cX10_init 12 = .ok (.putfield 12, 3) := by decide +kernel
theorem dX10_init_15 : decode cX10_init 15 = .ok (.aload_n 0, 1) := by decide +kernel
theorem dX10_init_16 : decode cX10_init 16 = .ok (.bipush 25, 2) := by decide +kernel
theorem dX10_init_18 : decode cX10_init 18 = .ok (.newarray .int, 2) := by decide +kernel
theorem dX10_init_20 : decode cX10_init 20 = .ok (.putfield 18, 3) := by decide +kernel
theorem dX10_init_23 : decode cX10_init 23 = .ok (.aload_n 0, 1) := by decide +kernel
theorem dX10_init_24 : decode cX10_init 24 = .ok (.new 22, 3) := by decide +kernel
theorem dX10_init_27 : decode cX10_init 27 = .ok (.dup, 1) := by decide +kernel
theorem dX10_init_28 : decode cX10_init 28 = .ok (.invokespecial 24, 3) := by decide +kernel
theorem dX10_init_31 : decode cX10_init 31 = .ok (.putfield 25, 3) := by decide +kernel
theorem dX10_init_34 : decode cX10_init 34 = .ok (.return_, 1) := by decide +kernel
theorem dX10_settle_0 : decode cX10_settle 0 = .ok (.aload_n 0, 1) := by decide +kernel
theorem dX10_settle_1 : decode cX10_settle 1 = .ok (.getfield 12, 3) := by decide +kernel
theorem dX10_settle_4 : decode cX10_settle 4 = .ok (.aload_n 1, 1) := by decide +kernel
theorem dX10_settle_5 : decode cX10_settle 5 = .ok (.invokevirtual 29, 3) := by decide +kernel
theorem dX10_settle_8 : decode cX10_settle 8 = .ok (.aload_n 0, 1) := by decide +kernel
theorem dX10_settle_9 : decode cX10_settle 9 = .ok (.getfield 12, 3) := by decide +kernel
theorem dX10_settle_12 : decode cX10_settle 12 = .ok (.getfield 33, 3) := by decide +kernel
theorem dX10_settle_15 : decode cX10_settle 15 = .ok (.iconst 0, 1) := by decide +kernel
theorem dX10_settle_16 : decode cX10_settle 16 = .ok (.aload_n 0, 1) := by decide +kernel
theorem dX10_settle_17 : decode cX10_settle 17 = .ok (.getfield 18, 3) := by decide +kernel
theorem dX10_settle_20 : decode cX10_settle 20 = .ok (.iconst 0, 1) := by decide +kernel
theorem dX10_settle_21 : decode cX10_settle 21 = .ok (.bipush 25, 2) := by decide +kernel
theorem dX10_settle_23 : decode cX10_settle 23 = .ok (.invokestatic 36, 3) := by decide +kernel
theorem dX10_settle_26 : decode cX10_settle 26 = .ok (.aload_n 0, 1) := by decide +kernel
theorem dX10_settle_27 : decode cX10_settle 27 = .ok (.getfield 25, 3) := by decide +kernel
theorem dX10_settle_30 : decode cX10_settle 30 = .ok (.iconst 0, 1) := by decide +kernel
theorem dX10_settle_31 : decode cX10_settle 31 = .ok (.invokevirtual 42, 3) := by decide +kernel
theorem dX10_settle_34 : decode cX10_settle 34 = .ok (.return_, 1) := by decide +kernel
theorem dX10_copyFrom_0 : decode cX10_copyFrom 0 = .ok (.aload_n 0, 1) := by decide +kernel
theorem dX10_copyFrom_1 : decode cX10_copyFrom 1 = .ok (.getfield 12, 3) := by decide +kernel
theorem dX10_copyFrom_4 : decode cX10_copyFrom 4 = .ok (.aload_n 1, 1) := by decide +kernel
theorem dX10_copyFrom_5 : decode cX10_copyFrom 5 = .ok (.getfield 12, 3) := by decide +kernel
theorem dX10_copyFrom_8 : decode cX10_copyFrom 8 = .ok (.invokevirtual 29, 3) := by decide +kernel
theorem dX10_copyFrom_11 : decode cX10_copyFrom 11 = .ok (.aload_n 1, 1) := by decide +kernel
theorem dX10_copyFrom_12 : decode cX10_copyFrom 12 = .ok (.getfield 18, 3) := by decide +kernel
theorem dX10_copyFrom_15 : decode cX10_copyFrom 15 = .ok (.iconst 0, 1) := by decide +kernel
theorem dX10_copyFrom_16 : decode cX10_copyFrom 16 = .ok (.aload_n 0, 1) := by decide +kernel
theorem dX10_copyFrom_17 : decode cX10_copyFrom 17 = .ok (.getfield 18, 3) := by decide +kernel
theorem dX10_copyFrom_20 : decode cX10_copyFrom 20 = .ok (.iconst 0, 1) := by decide +kernel
theorem dX10_copyFrom_21 : decode cX10_copyFrom 21 = .ok (.bipush 25, 2) := by decide +kernel
theorem dX10_copyFrom_23 : decode cX10_copyFrom 23 = .ok (.invokestatic 36, 3) := by decide +kernel
theorem dX10_copyFrom_26 : decode cX10_copyFrom 26 = .ok (.aload_n 0, 1) := by decide +kernel
theorem dX10_copyFrom_27 : decode cX10_copyFrom 27 = .ok (.getfield 25, 3) := by decide +kernel
theorem dX10_copyFrom_30 : decode cX10_copyFrom 30 = .ok (.aload_n 1, 1) := by decide +kernel
theorem dX10_copyFrom_31 : decode cX10_copyFrom 31 = .ok (.getfield 25, 3) := by decide +kernel
theorem dX10_copyFrom_34 : decode cX10_copyFrom 34 = .ok (.invokevirtual 46, 3) := by decide +kernel
theorem dX10_copyFrom_37 : decode cX10_copyFrom 37 = .ok (.return_, 1) := by decide +kernel
theorem dX11_init_0 : decode cX11_init 0 = .ok (.aload_n 0, 1) := by decide +kernel
theorem dX11_init_1 : decode cX11_init 1 = .ok (.invokespecial 1, 3) := by decide +kernel
theorem dX11_init_4 : decode cX11_init 4 = .ok (.aload_n 0, 1) := by decide +kernel
theorem dX11_init_5 : decode cX11_init 5 = .ok (.iconst 4, 1) := by decide +kernel
theorem dX11_init_6 : decode cX11_init 6 = .ok (.anewarray 9, 3) := by decide +kernel
theorem dX11_init_9 : decode cX11_init 9 = .ok (.putfield 11, 3) := by decide +kernel
theorem dX11_init_12 : decode cX11_init 12 = .ok (.aload_n 0, 1) := by decide +kernel
theorem dX11_init_13 : decode cX11_init 13 = .ok (.sipush 900, 3) := by decide +kernel
theorem dX11_init_16 : decode cX11_init 16 = .ok (.newarray .byte, 2) := by decide +kernel
theorem dX11_init_18 : decode cX11_init 18 = .ok (.putfield 15, 3) := by decide +kernel
theorem dX11_init_21 : decode cX11_init 21 = .ok (.aload_n 0, 1) := by decide +kernel
theorem dX11_init_22 : decode cX11_init 22 = .ok (.new 19, 3) := by decide +kernel
theorem dX11_init_25 : decode cX11_init 25 = .ok (.dup, 1) := by decide +kernel
theorem dX11_init_26 : decode cX11_init 26 = .ok (.invokespecial 21, 3) := by decide +kernel
theorem dX11_init_29 : decode cX11_init 29 = .ok (.putfield 22, 3) := by decide +kernel
theorem dX11_init_32 : decode cX11_init 32 = .ok (.aload_n 0, 1) := by decide +kernel
theorem dX11_init_33 : decode cX11_init 33 = .ok (.new 26, 3) := by decide +kernel
theorem dX11_init_36 : decode cX11_init 36 = .ok (.dup, 1) := by decide +kernel
theorem dX11_init_37 : decode cX11_init 37 = .ok (.invokespecial 28, 3) := by decide +kernel
theorem dX11_init_40 : decode cX11_init 40 = .ok (.putfield 29, 3) := by decide +kernel
theorem dX11_init_43 : decode cX11_init 43 = .ok (.aload_n 0, 1) := by decide +kernel
theorem dX11_init_44 : decode cX11_init 44 = .ok (.new 33, 3) := by decide +kernel
theorem dX11_init_47 : decode cX11_init 47 = .ok (.dup, 1) := by decide +kernel
theorem dX11_init_48 : decode cX11_init 48 = .ok (.invokespecial 35, 3) := by decide +kernel
theorem dX11_init_51 : decode cX11_init 51 = .ok (.putfield 36, 3) := by decide +kernel
theorem dX11_init_54 : decode cX11_init 54 = .ok (.aload_n 0, 1) := by decide +kernel
theorem dX11_init_55 : decode cX11_init 55 = .ok (.iconst 3, 1) := by decide +kernel
theorem dX11_init_56 : decode cX11_init 56 = .ok (.anewarray 33, 3) := by decide +kernel
theorem dX11_init_59 : decode cX11_init 59 = .ok (.putfield 40, 3) := by decide +kernel
theorem dX11_init_62 : decode cX11_init 62 = .ok (.aload_n 0, 1) := by decide +kernel
theorem dX11_init_63 : decode cX11_init 63 = .ok (.new 44, 3) := by decide +kernel
theorem dX11_init_66 : decode cX11_init 66 = .ok (.dup, 1) := by decide +kernel
theorem dX11_init_67 : decode cX11_init 67 = .ok (.invokespecial 46, 3) := by decide +kernel
theorem dX11_init_70 : decode cX11_init 70 = .ok (.putfield 47, 3) := by decide +kernel
theorem dX11_init_73 : decode cX11_init 73 = .ok (.aload_n 0, 1) := by decide +kernel
theorem dX11_init_74 : decode cX11_init 74 = .ok (.new 51, 3) := by decide +kernel
theorem dX11_init_77 : decode cX11_init 77 = .ok (.dup, 1) := by decide +kernel
theorem dX11_init_78 : decode cX11_init 78 = .ok (.invokespecial 53, 3) := by decide +kernel
theorem dX11_init_81 : decode cX11_init 81 = .ok (.putfield 54, 3) := by decide +kernel
theorem dX11_init_84 : decode cX11_init 84 = .ok (.aload_n 0, 1) := by decide +kernel
theorem dX11_init_85 : decode cX11_init 85 = .ok (.new 58, 3) := by decide +kernel
theorem dX11_init_88 : decode cX11_init 88 = .ok (.dup, 1) := by decide +kernel
theorem dX11_init_89 : decode cX11_init 89 = .ok (.invokespecial 60, 3) := by decide +kernel
theorem dX11_init_92 : decode cX11_init 92 = .ok (.putfield 61, 3) := by decide +kernel
theorem dX11_init_95 : decode cX11_init 95 = .ok (.aload_n 0, 1) := by decide +kernel
theorem dX11_init_96 : decode cX11_init 96 = .ok (.bipush 54, 2) := by decide +kernel
theorem dX11_init_98 : decode cX11_init 98 = .ok (.newarray .int, 2) := by decide +kernel
theorem dX11_init_100 : decode cX11_init 100 = .ok (.putfield 65, 3) := by decide +kernel
theorem dX11_init_103 : decode cX11_init 103 = .ok (.aload_n 0, 1) := by decide +kernel
theorem dX11_init_104 : decode cX11_init 104 = .ok (.bipush 25, 2) := by decide +kernel
theorem dX11_init_106 : decode cX11_init 106 = .ok (.newarray .int, 2) := by decide +kernel
theorem dX11_init_108 : decode cX11_init 108 = .ok (.putfield 69, 3) := by decide +kernel
theorem dX11_init_111 : decode cX11_init 111 = .ok (.aload_n 0, 1) := by decide +kernel
theorem dX11_init_112 : decode cX11_init 112 = .ok (.iconst 3, 1) := by decide +kernel
theorem dX11_init_113 : decode cX11_init 113 = .ok (.newarray .int, 2) := by decide +kernel
theorem dX11_init_115 : decode cX11_init 115 = .ok (.dup, 1) := by decide +kernel
theorem dX11_init_116 : decode cX11_init 116 = .ok (.iconst 0, 1) := by decide +kernel
theorem dX11_init_117 : decode cX11_init 117 = .ok (.iconst (-1), 1) := by decide +kernel
theorem dX11_init_118 : decode cX11_init 118 = .ok (.iastore, 1) := by decide +kernel
theorem dX11_init_119 : decode cX11_init 119 = .ok (.dup, 1) := by decide +kernel
theorem dX11_init_120 : decode cX11_init 120 = .ok (.iconst 1, 1) := by decide +kernel
theorem dX11_init_121 : decode cX11_init 121 = .ok (.iconst (-1), 1) := by decide +kernel
theorem dX11_init_122 : decode cX11_init 122 = .ok (.iastore, 1) := by decide +kernel
theorem dX11_init_123 : decode cX11_init 123 = .ok (.dup, 1) := by decide +kernel
theorem dX11_init_124 : decode cX11_init 124 = .ok (.iconst 2, 1) := by decide +kernel
theorem dX11_init_125 : decode cX11_init 125 = .ok (.iconst (-1), 1) := by decide +kernel
theorem dX11_init_126 : decode cX11_init 126 = .ok (.iastore, 1) := by decide +kernel
theorem dX11_init_127 : decode cX11_init 127 = .ok (.putfield 72, 3) := by decide +kernel
theorem dX11_init_130 : decode cX11_init 130 = .ok (.aload_n 0, 1) := by decide +kernel
theorem dX11_init_131 : decode cX11_init 131 = .ok (.iconst 2, 1) := by decide +kernel
theorem dX11_init_132 : decode cX11_init 132 = .ok (.newarray .long, 2) := by decide +kernel
theorem dX11_init_134 : decode cX11_init 134 = .ok (.dup, 1) := by decide +kernel
theorem dX11_init_135 : decode cX11_init 135 = .ok (.iconst 0, 1) := by decide +kernel
theorem dX11_init_136 : decode cX11_init 136 = .ok (.lconst 0, 1) := by decide +kernel
theorem dX11_init_137 : decode cX11_init 137 = .ok (.lastore, 1) := by decide +kernel
theorem dX11_init_138 : decode cX11_init 138 = .ok (.dup, 1) := by decide +kernel
theorem dX11_init_139 : decode cX11_init 139 = .ok (.iconst 1, 1) := by decide +kernel
theorem dX11_init_140 : decode cX11_init 140 = .ok (.lconst 1, 1) := by decide +kernel
theorem dX11_init_141 : decode cX11_init 141 = .ok (.lastore, 1) := by decide +kernel
theorem dX11_init_142 : decode cX11_init 142 = .ok (.putfield 75, 3) := by decide +kernel
theorem dX11_init_145 : decode cX11_init 145 = .ok (.aload_n 0, 1) := by decide +kernel
theorem dX11_init_146 : decode cX11_init 146 = .ok (.iconst 2, 1) := by decide +kernel
theorem dX11_init_147 : decode cX11_init 147 = .ok (.newarray .int, 2) := by decide +kernel
theorem dX11_init_149 : decode cX11_init 149 = .ok (.dup, 1) := by decide +kernel
theorem dX11_init_150 : decode cX11_init 150 = .ok (.iconst 0, 1) := by decide +kernel
theorem dX11_init_151 : decode cX11_init 151 = .ok (.iconst (-1), 1) := by decide +kernel
theorem dX11_init_152 : decode cX11_init 152 = .ok (.iastore, 1) := by decide +kernel
theorem dX11_init_153 : decode cX11_init 153 = .ok (.dup, 1) := by decide +kernel
theorem dX11_init_154 : decode cX11_init 154 = .ok (.iconst 1, 1) := by decide +kernel
theorem dX11_init_155 : decode cX11_init 155 = .ok (.iconst (-1), 1) := by decide +kernel
theorem dX11_init_156 : decode cX11_init 156 = .ok (.iastore, 1) := by decide +kernel
theorem dX11_init_157 : decode cX11_init 157 = .ok (.putfield 79, 3) := by decide +kernel
theorem dX11_init_160 : decode cX11_init 160 = .ok (.iconst 0, 1) := by decide +kernel
theorem dX11_init_161 : decode cX11_init 161 = .ok (.istore_n 1, 1) := by decide +kernel
theorem dX11_init_162 : decode cX11_init 162 = .ok (.iload_n 1, 1) := by decide +kernel
theorem dX11_init_163 : decode cX11_init 163 = .ok (.iconst 4, 1) := by decide +kernel
theorem dX11_init_164 : decode cX11_init 164 = .ok (.if_icmp .ge 22, 3) := by decide +kernel
theorem dX11_init_167 : decode cX11_init 167 = .ok (.aload_n 0, 1) := by decide +kernel
theorem dX11_init_168 : decode cX11_init 168 = .ok (.getfield 11, 3) := by decide +kernel
theorem dX11_init_171 : decode cX11_init 171 = .ok (.iload_n 1, 1) := by decide +kernel
theorem dX11_init_172 : decode cX11_init 172 = .ok (.new 9, 3) := by decide +kernel
theorem dX11_init_175 : decode cX11_init 175 = .ok (.dup, 1) := by decide +kernel
theorem dX11_init_176 : decode cX11_init 176 = .ok (.invokespecial 82, 3) := by decide +kernel
theorem dX11_init_179 : decode cX11_init 179 = .ok (.aastore, 1) := by decide +kernel
theorem dX11_init_180 : decode cX11_init 180 = .ok (.iinc 1 1, 3) := by decide +kernel
theorem dX11_init_183 : decode cX11_init 183 = .ok (.goto (-21), 3) := by decide +kernel
theorem dX11_init_186 : decode cX11_init 186 = .ok (.iconst 0, 1) := by decide +kernel
theorem dX11_init_187 : decode cX11_init 187 = .ok (.istore_n 1, 1) := by decide +kernel
theorem dX11_init_188 : decode cX11_init 188 = .ok (.iload_n 1, 1) := by decide +kernel
theorem dX11_init_189 : decode cX11_init 189 = .ok (.iconst 3, 1) := by decide +kernel
theorem dX11_init_190 : decode cX11_init 190 = .ok (.if_icmp .ge 22, 3) := by decide +kernel
theorem dX11_init_193 : decode cX11_init 193 = .ok (.aload_n 0, 1) := by decide +kernel
theorem dX11_init_194 : decode cX11_init 194 = .ok (.getfield 40, 3) := by decide +kernel
theorem dX11_init_197 : decode cX11_init 197 = .ok (.iload_n 1, 1) := by decide +kernel
theorem dX11_init_198 : decode cX11_init 198 = .ok (.new 33, 3) := by decide +kernel
theorem dX11_init_201 : decode cX11_init 201 = .ok (.dup, 1) := by decide +kernel
theorem dX11_init_202 : decode cX11_init 202 = .ok (.invokespecial 35, 3) := by decide +kernel
theorem dX11_init_205 : decode cX11_init 205 = .ok (.aastore, 1) := by decide +kernel
theorem dX11_init_206 : decode cX11_init 206 = .ok (.iinc 1 1, 3) := by decide +kernel
theorem dX11_init_209 : decode cX11_init 209 = .ok (.goto (-21), 3) := by decide +kernel
theorem dX11_init_212 : decode cX11_init 212 = .ok (.return_, 1) := by decide +kernel
theorem dX11_status_0 : decode cX11_status 0 = .ok (.aload_n 0, 1) := by decide +kernel
theorem dX11_status_1 : decode cX11_status 1 = .ok (.getfield 83, 3) := by decide +kernel
theorem dX11_status_4 : decode cX11_status 4 = .ok (.ireturn, 1) := by decide +kernel
theorem dX11_top_0 : decode cX11_top 0 = .ok (.aload_n 0, 1) := by decide +kernel
theorem dX11_top_1 : decode cX11_top 1 = .ok (.getfield 75, 3) := by decide +kernel
theorem dX11_top_4 : decode cX11_top 4 = .ok (.iconst 0, 1) := by decide +kernel
theorem dX11_top_5 : decode cX11_top 5 = .ok (.laload, 1) := by decide +kernel
theorem dX11_top_6 : decode cX11_top 6 = .ok (.lreturn, 1) := by decide +kernel
theorem dX11_bottom_0 : decode cX11_bottom 0 = .ok (.aload_n 0, 1) := by decide +kernel
theorem dX11_bottom_1 : decode cX11_bottom 1 = .ok (.getfield 75, 3) := by decide +kernel
theorem dX11_bottom_4 : decode cX11_bottom 4 = .ok (.iconst 1, 1) := by decide +kernel
theorem dX11_bottom_5 : decode cX11_bottom 5 = .ok (.laload, 1) := by decide +kernel
theorem dX11_bottom_6 : decode cX11_bottom 6 = .ok (.lreturn, 1) := by decide +kernel
theorem dX11_tray_0 : decode cX11_tray 0 = .ok (.iload_n 1, 1) := by decide +kernel
theorem dX11_tray_1 : decode cX11_tray 1 = .ok (.invokestatic 87, 3) := by decide +kernel
theorem dX11_tray_4 : decode cX11_tray 4 = .ok (.ifCond .eq 12, 3) := by decide +kernel
theorem dX11_tray_7 : decode cX11_tray 7 = .ok (.iload_n 2, 1) := by decide +kernel
theorem dX11_tray_8 : decode cX11_tray 8 = .ok (.ifCond .lt 8, 3) := by decide +kernel
theorem dX11_tray_11 : decode cX11_tray 11 = .ok (.iload_n 2, 1) := by decide +kernel
theorem dX11_tray_12 : decode cX11_tray 12 = .ok (.iconst 3, 1) := by decide +kernel
theorem dX11_tray_13 : decode cX11_tray 13 = .ok (.if_icmp .le 9, 3) := by decide +kernel
theorem dX11_tray_16 : decode cX11_tray 16 = .ok (.aload_n 0, 1) := by decide +kernel
theorem dX11_tray_17 : decode cX11_tray 17 = .ok (.iconst 1, 1) := by decide +kernel
theorem dX11_tray_18 : decode cX11_tray 18 = .ok (.invokevirtual 91, 3) := by decide +kernel
theorem dX11_tray_21 : decode cX11_tray 21 = .ok (.ireturn, 1) := by decide +kernel
theorem dX11_tray_22 : decode cX11_tray 22 = .ok (.iload_n 3, 1) := by decide +kernel
theorem dX11_tray_23 : decode cX11_tray 23 = .ok (.bipush 60, 2) := by decide +kernel
theorem dX11_tray_25 : decode cX11_tray 25 = .ok (.if_icmp .le 9, 3) := by decide +kernel
theorem dX11_tray_28 : decode cX11_tray 28 = .ok (.aload_n 0, 1) := by decide +kernel
theorem dX11_tray_29 : decode cX11_tray 29 = .ok (.iconst 5, 1) := by decide +kernel
theorem dX11_tray_30 : decode cX11_tray 30 = .ok (.invokevirtual 91, 3) := by decide +kernel
theorem dX11_tray_33 : decode cX11_tray 33 = .ok (.ireturn, 1) := by decide +kernel
theorem dX11_tray_34 : decode cX11_tray 34 = .ok (.iload_n 3, 1) := by decide +kernel
theorem dX11_tray_35 : decode cX11_tray 35 = .ok (.ifCond .ge 10, 3) := by decide +kernel
theorem dX11_tray_38 : decode cX11_tray 38 = .ok (.aload_n 0, 1) := by decide +kernel
theorem dX11_tray_39 : decode cX11_tray 39 = .ok (.bipush 6, 2) := by decide +kernel
theorem dX11_tray_41 : decode cX11_tray 41 = .ok (.invokevirtual 91, 3) := by decide +kernel
theorem dX11_tray_44 : decode cX11_tray 44 = .ok (.ireturn, 1) := by decide +kernel
theorem dX11_tray_45 : decode cX11_tray 45 = .ok (.aload_n 0, 1) := by decide +kernel
theorem dX11_tray_46 : decode cX11_tray 46 = .ok (.getfield 11, 3) := by decide +kernel
theorem dX11_tray_49 : decode cX11_tray 49 = .ok (.iload_n 1, 1) := by decide +kernel
theorem dX11_tray_50 : decode cX11_tray 50 = .ok (.aaload, 1) := by decide +kernel
theorem dX11_tray_51 : decode cX11_tray 51 = .ok (.iload_n 2, 1) := by decide +kernel
theorem dX11_tray_52 : decode cX11_tray 52 = .ok (.iload_n 3, 1) := by decide +kernel
theorem dX11_tray_53 : decode cX11_tray 53 = .ok (.invokevirtual 94, 3) := by decide +kernel
theorem dX11_tray_56 : decode cX11_tray 56 = .ok (.aload_n 0, 1) := by decide +kernel
theorem dX11_tray_57 : decode cX11_tray 57 = .ok (.iconst 0, 1) := by decide +kernel
theorem dX11_tray_58 : decode cX11_tray 58 = .ok (.invokevirtual 91, 3) := by decide +kernel
theorem dX11_tray_61 : decode cX11_tray 61 = .ok (.ireturn, 1) := by decide +kernel
theorem dX11_write_0 : decode cX11_write 0 = .ok (.aload_n 0, 1) := by decide +kernel
theorem dX11_write_1 : decode cX11_write 1 = .ok (.iload_n 1, 1) := by decide +kernel
theorem dX11_write_2 : decode cX11_write 2 = .ok (.iload_n 2, 1) := by decide +kernel
theorem dX11_write_3 : decode cX11_write 3 = .ok (.invokevirtual 98, 3) := by decide +kernel
theorem dX11_write_6 : decode cX11_write 6 = .ok (.istore 5, 2) := by decide +kernel
theorem dX11_write_8 : decode cX11_write 8 = .ok (.iload 5, 2) := by decide +kernel
theorem dX11_write_10 : decode cX11_write 10 = .ok (.ifCond .ne 14, 3) := by decide +kernel
theorem dX11_write_13 : decode cX11_write 13 = .ok (.aload_n 0, 1) := by decide +kernel
theorem dX11_write_14 : decode cX11_write 14 = .ok (.getfield 11, 3) := by decide +kernel
theorem dX11_write_17 : decode cX11_write 17 = .ok (.iload_n 1, 1) := by decide +kernel
theorem dX11_write_18 : decode cX11_write 18 = .ok (.aaload, 1) := by decide +kernel
theorem dX11_write_19 : decode cX11_write 19 = .ok (.iload_n 2, 1) := by decide +kernel
theorem dX11_write_20 : decode cX11_write 20 = .ok (.lload_n 3, 1) := by decide +kernel
theorem dX11_write_21 : decode cX11_write 21 = .ok (.invokevirtual 102, 3) := by decide +kernel
theorem dX11_write_24 : decode cX11_write 24 = .ok (.aload_n 0, 1) := by decide +kernel
theorem dX11_write_25 : decode cX11_write 25 = .ok (.iload 5, 2) := by decide +kernel
theorem dX11_write_27 : decode cX11_write 27 = .ok (.invokevirtual 91, 3) := by decide +kernel
theorem dX11_write_30 : decode cX11_write 30 = .ok (.ireturn, 1) := by decide +kernel
theorem dX11_read_0 : decode cX11_read 0 = .ok (.aload_n 0, 1) := by decide +kernel
theorem dX11_read_1 : decode cX11_read 1 = .ok (.iload_n 1, 1) := by decide +kernel
theorem dX11_read_2 : decode cX11_read 2 = .ok (.iload_n 2, 1) := by decide +kernel
theorem dX11_read_3 : decode cX11_read 3 = .ok (.invokevirtual 98, 3) := by decide +kernel
theorem dX11_read_6 : decode cX11_read 6 = .ok (.istore_n 3, 1) := by decide +kernel
theorem dX11_read_7 : decode cX11_read 7 = .ok (.iload_n 3, 1) := by decide +kernel
theorem dX11_read_8 : decode cX11_read 8 = .ok (.ifCond .eq 10, 3) := by decide +kernel
theorem dX11_read_11 : decode cX11_read 11 = .ok (.aload_n 0, 1) := by decide +kernel
theorem dX11_read_12 : decode cX11_read 12 = .ok (.iload_n 3, 1) := by decide +kernel
theorem dX11_read_13 : decode cX11_read 13 = .ok (.invokevirtual 106, 3) := by decide +kernel
theorem dX11_read_16 : decode cX11_read 16 = .ok (.i2l, 1) := by decide +kernel
theorem dX11_read_17 : decode cX11_read 17 = .ok (.lreturn, 1) := by decide +kernel
theorem dX11_read_18 : decode cX11_read 18 = .ok (.aload_n 0, 1) := by decide +kernel
theorem dX11_read_19 : decode cX11_read 19 = .ok (.iconst 0, 1) := by decide +kernel
theorem dX11_read_20 : decode cX11_read 20 = .ok (.putfield 83, 3) := by decide +kernel
theorem dX11_read_23 : decode cX11_read 23 = .ok (.aload_n 0, 1) := by decide +kernel
theorem dX11_read_24 : decode cX11_read 24 = .ok (.getfield 11, 3) := by decide +kernel
theorem dX11_read_27 : decode cX11_read 27 = .ok (.iload_n 1, 1) := by decide +kernel
theorem dX11_read_28 : decode cX11_read 28 = .ok (.aaload, 1) := by decide +kernel
theorem dX11_read_29 : decode cX11_read 29 = .ok (.getfield 110, 3) := by decide +kernel
theorem dX11_read_32 : decode cX11_read 32 = .ok (.iload_n 2, 1) := by decide +kernel
theorem dX11_read_33 : decode cX11_read 33 = .ok (.laload, 1) := by decide +kernel
theorem dX11_read_34 : decode cX11_read 34 = .ok (.lreturn, 1) := by decide +kernel
theorem dX11_pour_0 : decode cX11_pour 0 = .ok (.iload_n 1, 1) := by decide +kernel
theorem dX11_pour_1 : decode cX11_pour 1 = .ok (.invokestatic 87, 3) := by decide +kernel
theorem dX11_pour_4 : decode cX11_pour 4 = .ok (.ifCond .eq 10, 3) := by decide +kernel
theorem dX11_pour_7 : decode cX11_pour 7 = .ok (.iload_n 3, 1) := by decide +kernel
theorem dX11_pour_8 : decode cX11_pour 8 = .ok (.invokestatic 87, 3) := by decide +kernel
theorem dX11_pour_11 : decode cX11_pour 11 = .ok (.ifCond .ne 9, 3) := by decide +kernel
theorem dX11_pour_14 : decode cX11_pour 14 = .ok (.aload_n 0, 1) := by decide +kernel
theorem dX11_pour_15 : decode cX11_pour 15 = .ok (.iconst 1, 1) := by decide +kernel
theorem dX11_pour_16 : decode cX11_pour 16 = .ok (.invokevirtual 91, 3) := by decide +kernel
theorem dX11_pour_19 : decode cX11_pour 19 = .ok (.ireturn, 1) := by decide +kernel
theorem dX11_pour_20 : decode cX11_pour 20 = .ok (.aload_n 0, 1) := by decide +kernel
theorem dX11_pour_21 : decode cX11_pour 21 = .ok (.getfield 11, 3) := by decide +kernel
theorem dX11_pour_24 : decode cX11_pour 24 = .ok (.iload_n 1, 1) := by decide +kernel
theorem dX11_pour_25 : decode cX11_pour 25 = .ok (.aaload, 1) := by decide +kernel
theorem dX11_pour_26 : decode cX11_pour 26 = .ok (.astore 6, 2) := by decide +kernel
theorem dX11_pour_28 : decode cX11_pour 28 = .ok (.aload_n 0, 1) := by decide +kernel
theorem dX11_pour_29 : decode cX11_pour 29 = .ok (.getfield 11, 3) := by decide +kernel
theorem dX11_pour_32 : decode cX11_pour 32 = .ok (.iload_n 3, 1) := by decide +kernel
theorem dX11_pour_33 : decode cX11_pour 33 = .ok (.aaload, 1) := by decide +kernel
theorem dX11_pour_34 : decode cX11_pour 34 = .ok (.astore 7, 2) := by decide +kernel
theorem dX11_pour_36 : decode cX11_pour 36 = .ok (.aload 6, 2) := by decide +kernel
theorem dX11_pour_38 : decode cX11_pour 38 = .ok (.getfield 113, 3) := by decide +kernel
theorem dX11_pour_41 : decode cX11_pour 41 = .ok (.ifCond .eq 11, 3) := by decide +kernel
theorem dX11_pour_44 : decode cX11_pour 44 = .ok (.aload 7, 2) := by decide +kernel
theorem dX11_pour_46 : decode cX11_pour 46 = .ok (.getfield 113, 3) := by decide +kernel
theorem dX11_pour_49 : decode cX11_pour 49 = .ok (.ifCond .ne 9, 3) := by decide +kernel
theorem dX11_pour_52 : decode cX11_pour 52 = .ok (.aload_n 0, 1) := by decide +kernel
theorem dX11_pour_53 : decode cX11_pour 53 = .ok (.iconst 3, 1) := by decide +kernel
theorem dX11_pour_54 : decode cX11_pour 54 = .ok (.invokevirtual 91, 3) := by decide +kernel
theorem dX11_pour_57 : decode cX11_pour 57 = .ok (.ireturn, 1) := by decide +kernel
theorem dX11_pour_58 : decode cX11_pour 58 = .ok (.aload 6, 2) := by decide +kernel
theorem dX11_pour_60 : decode cX11_pour 60 = .ok (.getfield 117, 3) := by decide +kernel
theorem dX11_pour_63 : decode cX11_pour 63 = .ok (.aload 7, 2) := by decide +kernel
theorem dX11_pour_65 : decode cX11_pour 65 = .ok (.getfield 117, 3) := by decide +kernel
theorem dX11_pour_68 : decode cX11_pour 68 = .ok (.if_icmp .eq 10, 3) := by decide +kernel
theorem dX11_pour_71 : decode cX11_pour 71 = .ok (.aload_n 0, 1) := by decide +kernel
theorem dX11_pour_72 : decode cX11_pour 72 = .ok (.bipush 11, 2) := by decide +kernel
theorem dX11_pour_74 : decode cX11_pour 74 = .ok (.invokevirtual 91, 3) := by decide +kernel
theorem dX11_pour_77 : decode cX11_pour 77 = .ok (.ireturn, 1) := by decide +kernel
theorem dX11_pour_78 : decode cX11_pour 78 = .ok (.iload 5, 2) := by decide +kernel
theorem dX11_pour_80 : decode cX11_pour 80 = .ok (.ifCond .ge 10, 3) := by decide +kernel
theorem dX11_pour_83 : decode cX11_pour 83 = .ok (.aload_n 0, 1) := by decide +kernel
theorem dX11_pour_84 : decode cX11_pour 84 = .ok (.bipush 6, 2) := by decide +kernel
theorem dX11_pour_86 : decode cX11_pour 86 = .ok (.invokevirtual 91, 3) := by decide +kernel
theorem dX11_pour_89 : decode cX11_pour 89 = .ok (.ireturn, 1) := by decide +kernel
theorem dX11_pour_90 : decode cX11_pour 90 = .ok (.aload 6, 2) := by decide +kernel
theorem dX11_pour_92 : decode cX11_pour 92 = .ok (.iload_n 2, 1) := by decide +kernel
theorem dX11_pour_93 : decode cX11_pour 93 = .ok (.iload 5, 2) := by decide +kernel
theorem dX11_pour_95 : decode cX11_pour 95 = .ok (.invokevirtual 120, 3) := by decide +kernel
theorem dX11_pour_98 : decode cX11_pour 98 = .ok (.ifCond .eq 15, 3) := by decide +kernel
theorem dX11_pour_101 : decode cX11_pour 101 = .ok (.aload 7, 2) := by decide +kernel
theorem dX11_pour_103 : decode cX11_pour 103 = .ok (.iload 4, 2) := by decide +kernel
theorem dX11_pour_105 : decode cX11_pour 105 = .ok (.iload 5, 2) := by decide +kernel
theorem dX11_pour_107 : decode cX11_pour 107 = .ok (.invokevirtual 120, 3) := by decide +kernel
theorem dX11_pour_110 : decode cX11_pour 110 = .ok (.ifCond .ne 9, 3) := by decide +kernel
theorem dX11_pour_113 : decode cX11_pour 113 = .ok (.aload_n 0, 1) := by decide +kernel
theorem dX11_pour_114 : decode cX11_pour 114 = .ok (.iconst 4, 1) := by decide +kernel
theorem dX11_pour_115 : decode cX11_pour 115 = .ok (.invokevirtual 91, 3) := by decide +kernel
theorem dX11_pour_118 : decode cX11_pour 118 = .ok (.ireturn, 1) := by decide +kernel
theorem dX11_pour_119 : decode cX11_pour 119 = .ok (.aload 6, 2) := by decide +kernel
theorem dX11_pour_121 : decode cX11_pour 121 = .ok (.getfield 110, 3) := by decide +kernel
theorem dX11_pour_124 : decode cX11_pour 124 = .ok (.iload_n 2, 1) := by decide +kernel
theorem dX11_pour_125 : decode cX11_pour 125 = .ok (.aload 7, 2) := by decide +kernel
theorem dX11_pour_127 : decode cX11_pour 127 = .ok (.getfield 110, 3) := by decide +kernel
theorem dX11_pour_130 : decode cX11_pour 130 = .ok (.iload 4, 2) := by decide +kernel
theorem dX11_pour_132 : decode cX11_pour 132 = .ok (.iload 5, 2) := by decide +kernel
theorem dX11_pour_134 : decode cX11_pour 134 = .ok (.invokestatic 124, 3) := by decide +kernel
theorem dX11_pour_137 : decode cX11_pour 137 = .ok (.aload_n 0, 1) := by decide +kernel
theorem dX11_pour_138 : decode cX11_pour 138 = .ok (.iconst 0, 1) := by decide +kernel
theorem dX11_pour_139 : decode cX11_pour 139 = .ok (.invokevirtual 91, 3) := by decide +kernel
theorem dX11_pour_142 : decode cX11_pour 142 = .ok (.ireturn, 1) := by decide +kernel
theorem dX11_feed_0 : decode cX11_feed 0 = .ok (.aload_n 0, 1) := by decide +kernel
theorem dX11_feed_1 : decode cX11_feed 1 = .ok (.getfield 130, 3) := by decide +kernel
theorem dX11_feed_4 : decode cX11_feed 4 = .ok (.bipush 20, 2) := by decide +kernel
theorem dX11_feed_6 : decode cX11_feed 6 = .ok (.iadd, 1) := by decide +kernel
theorem dX11_feed_7 : decode cX11_feed 7 = .ok (.sipush 900, 3) := by decide +kernel
theorem dX11_feed_10 : decode cX11_feed 10 = .ok (.if_icmp .le 5, 3) := by decide +kernel
theorem dX11_feed_13 : decode cX11_feed 13 = .ok (.iconst (-1), 1) := by decide +kernel
theorem dX11_feed_14 : decode cX11_feed 14 = .ok (.ireturn, 1) := by decide +kernel
theorem dX11_feed_15 : decode cX11_feed 15 = .ok (.aload_n 0, 1) := by decide +kernel
theorem dX11_feed_16 : decode cX11_feed 16 = .ok (.iload_n 1, 1) := by decide +kernel
theorem dX11_feed_17 : decode cX11_feed 17 = .ok (.invokevirtual 133, 3) := by decide +kernel
theorem dX11_feed_20 : decode cX11_feed 20 = .ok (.aload_n 0, 1) := by decide +kernel
theorem dX11_feed_21 : decode cX11_feed 21 = .ok (.iload_n 2, 1) := by decide +kernel
theorem dX11_feed_22 : decode cX11_feed 22 = .ok (.invokevirtual 133, 3) := by decide +kernel
theorem dX11_feed_25 : decode cX11_feed 25 = .ok (.aload_n 0, 1) := by decide +kernel
theorem dX11_feed_26 : decode cX11_feed 26 = .ok (.iload_n 3, 1) := by decide +kernel
theorem dX11_feed_27 : decode cX11_feed 27 = .ok (.invokevirtual 133, 3) := by decide +kernel
theorem dX11_feed_30 : decode cX11_feed 30 = .ok (.aload_n 0, 1) := by decide +kernel
theorem dX11_feed_31 : decode cX11_feed 31 = .ok (.iload 4, 2) := by decide +kernel
theorem dX11_feed_33 : decode cX11_feed 33 = .ok (.invokevirtual 133, 3) := by decide +kernel
theorem dX11_feed_36 : decode cX11_feed 36 = .ok (.aload_n 0, 1) := by decide +kernel
theorem dX11_feed_37 : decode cX11_feed 37 = .ok (.iload 5, 2) := by decide +kernel
theorem dX11_feed_39 : decode cX11_feed 39 = .ok (.invokevirtual 133, 3) := by decide +kernel
theorem dX11_feed_42 : decode cX11_feed 42 = .ok (.aload_n 0, 1) := by decide +kernel
theorem dX11_feed_43 : decode cX11_feed 43 = .ok (.getfield 130, 3) := by decide +kernel
theorem dX11_feed_46 : decode cX11_feed 46 = .ok (.ireturn, 1) := by decide +kernel
theorem dX11_plain_0 : decode cX11_plain 0 = .ok (.iload_n 1, 1) := by decide +kernel
theorem dX11_plain_1 : decode cX11_plain 1 = .ok (.ifCond .lt 11, 3) := by decide +kernel
theorem dX11_plain_4 : decode cX11_plain 4 = .ok (.iload_n 1, 1) := by decide +kernel
theorem dX11_plain_5 : decode cX11_plain 5 = .ok (.aload_n 0, 1) := by decide +kernel
theorem dX11_plain_6 : decode cX11_plain 6 = .ok (.getfield 130, 3) := by decide +kernel
theorem dX11_plain_9 : decode cX11_plain 9 = .ok (.if_icmp .le 9, 3) := by decide +kernel
theorem dX11_plain_12 : decode cX11_plain 12 = .ok (.aload_n 0, 1) := by decide +kernel
theorem dX11_plain_13 : decode cX11_plain 13 = .ok (.iconst 5, 1) := by decide +kernel
theorem dX11_plain_14 : decode cX11_plain 14 = .ok (.invokevirtual 106, 3) := by decide +kernel
theorem dX11_plain_17 : decode cX11_plain 17 = .ok (.ireturn, 1) := by decide +kernel
theorem dX11_plain_18 : decode cX11_plain 18 = .ok (.aload_n 0, 1) := by decide +kernel
theorem dX11_plain_19 : decode cX11_plain 19 = .ok (.iconst 0, 1) := by decide +kernel
theorem dX11_plain_20 : decode cX11_plain 20 = .ok (.putfield 130, 3) := by decide +kernel
theorem dX11_plain_23 : decode cX11_plain 23 = .ok (.aload_n 0, 1) := by decide +kernel
theorem dX11_plain_24 : decode cX11_plain 24 = .ok (.getfield 22, 3) := by decide +kernel
theorem dX11_plain_27 : decode cX11_plain 27 = .ok (.aload_n 0, 1) := by decide +kernel
theorem dX11_plain_28 : decode cX11_plain 28 = .ok (.getfield 15, 3) := by decide +kernel
theorem dX11_plain_31 : decode cX11_plain 31 = .ok (.iload_n 1, 1) := by decide +kernel
theorem dX11_plain_32 : decode cX11_plain 32 = .ok (.invokevirtual 137, 3) := by decide +kernel
theorem dX11_plain_35 : decode cX11_plain 35 = .ok (.istore_n 2, 1) := by decide +kernel
theorem dX11_plain_36 : decode cX11_plain 36 = .ok (.aload_n 0, 1) := by decide +kernel
theorem dX11_plain_37 : decode cX11_plain 37 = .ok (.aload_n 0, 1) := by decide +kernel
theorem dX11_plain_38 : decode cX11_plain 38 = .ok (.getfield 22, 3) := by decide +kernel
theorem dX11_plain_41 : decode cX11_plain 41 = .ok (.getfield 141, 3) := by decide +kernel
theorem dX11_plain_44 : decode cX11_plain 44 = .ok (.invokevirtual 145, 3) := by decide +kernel
theorem dX11_plain_47 : decode cX11_plain 47 = .ok (.iload_n 2, 1) := by decide +kernel
theorem dX11_plain_48 : decode cX11_plain 48 = .ok (.ifCond .ne 10, 3) := by decide +kernel
theorem dX11_plain_51 : decode cX11_plain 51 = .ok (.aload_n 0, 1) := by decide +kernel
theorem dX11_plain_52 : decode cX11_plain 52 = .ok (.bipush 10, 2) := by decide +kernel
theorem dX11_plain_54 : decode cX11_plain 54 = .ok (.invokevirtual 106, 3) := by decide +kernel
theorem dX11_plain_57 : decode cX11_plain 57 = .ok (.ireturn, 1) := by decide +kernel
theorem dX11_plain_58 : decode cX11_plain 58 = .ok (.aload_n 0, 1) := by decide +kernel
theorem dX11_plain_59 : decode cX11_plain 59 = .ok (.getfield 36, 3) := by decide +kernel
theorem dX11_plain_62 : decode cX11_plain 62 = .ok (.aload_n 0, 1) := by decide +kernel
theorem dX11_plain_63 : decode cX11_plain 63 = .ok (.getfield 22, 3) := by decide +kernel
theorem dX11_plain_66 : decode cX11_plain 66 = .ok (.getfield 149, 3) := by decide +kernel
theorem dX11_plain_69 : decode cX11_plain 69 = .ok (.invokevirtual 153, 3) := by decide +kernel
theorem dX11_plain_72 : decode cX11_plain 72 = .ok (.aload_n 0, 1) := by decide +kernel
theorem dX11_plain_73 : decode cX11_plain 73 = .ok (.aload_n 0, 1) := by decide +kernel
theorem dX11_plain_74 : decode cX11_plain 74 = .ok (.getfield 36, 3) := by decide +kernel
theorem dX11_plain_77 : decode cX11_plain 77 = .ok (.getfield 157, 3) := by decide +kernel
theorem dX11_plain_80 : decode cX11_plain 80 = .ok (.getfield 160, 3) := by decide +kernel
theorem dX11_plain_83 : decode cX11_plain 83 = .ok (.invokevirtual 165, 3) := by decide +kernel
theorem dX11_plain_86 : decode cX11_plain 86 = .ok (.ireturn, 1) := by decide +kernel
theorem dX11_orders_0 : decode cX11_orders 0 = .ok (.iload_n 1, 1) := by decide +kernel
theorem dX11_orders_1 : decode cX11_orders 1 = .ok (.ifCond .lt 18, 3) := by decide +kernel
theorem dX11_orders_4 : decode cX11_orders 4 = .ok (.iload_n 1, 1) := by decide +kernel
theorem dX11_orders_5 : decode cX11_orders 5 = .ok (.aload_n 0, 1) := by decide +kernel
theorem dX11_orders_6 : decode cX11_orders 6 = .ok (.getfield 130, 3) := by decide +kernel
theorem dX11_orders_9 : decode cX11_orders 9 = .ok (.if_icmp .gt 10, 3) := by decide +kernel
theorem dX11_orders_12 : decode cX11_orders 12 = .ok (.iload_n 1, 1) := by decide +kernel
theorem dX11_orders_13 : decode cX11_orders 13 = .ok (.sipush 300, 3) := by decide +kernel
theorem dX11_orders_16 : decode cX11_orders 16 = .ok (.if_icmp .le 9, 3) := by decide +kernel
theorem dX11_orders_19 : decode cX11_orders 19 = .ok (.aload_n 0, 1) := by decide +kernel
theorem dX11_orders_20 : decode cX11_orders 20 = .ok (.iconst 5, 1) := by decide +kernel
theorem dX11_orders_21 : decode cX11_orders 21 = .ok (.invokevirtual 106, 3) := by decide +kernel
theorem dX11_orders_24 : decode cX11_orders 24 = .ok (.ireturn, 1) := by decide +kernel
theorem dX11_orders_25 : decode cX11_orders 25 = .ok (.aload_n 0, 1) := by decide +kernel
theorem dX11_orders_26 : decode cX11_orders 26 = .ok (.iconst 0, 1) := by decide +kernel
theorem dX11_orders_27 : decode cX11_orders 27 = .ok (.putfield 130, 3) := by decide +kernel
theorem dX11_orders_30 : decode cX11_orders 30 = .ok (.aload_n 0, 1) := by decide +kernel
theorem dX11_orders_31 : decode cX11_orders 31 = .ok (.getfield 29, 3) := by decide +kernel
theorem dX11_orders_34 : decode cX11_orders 34 = .ok (.aload_n 0, 1) := by decide +kernel
theorem dX11_orders_35 : decode cX11_orders 35 = .ok (.getfield 15, 3) := by decide +kernel
theorem dX11_orders_38 : decode cX11_orders 38 = .ok (.iload_n 1, 1) := by decide +kernel
theorem dX11_orders_39 : decode cX11_orders 39 = .ok (.aload_n 0, 1) := by decide +kernel
theorem dX11_orders_40 : decode cX11_orders 40 = .ok (.getfield 36, 3) := by decide +kernel
theorem dX11_orders_43 : decode cX11_orders 43 = .ok (.getfield 157, 3) := by decide +kernel
theorem dX11_orders_46 : decode cX11_orders 46 = .ok (.invokevirtual 168, 3) := by decide +kernel
theorem dX11_orders_49 : decode cX11_orders 49 = .ok (.istore_n 2, 1) := by decide +kernel
theorem dX11_orders_50 : decode cX11_orders 50 = .ok (.aload_n 0, 1) := by decide +kernel
theorem dX11_orders_51 : decode cX11_orders 51 = .ok (.aload_n 0, 1) := by decide +kernel
theorem dX11_orders_52 : decode cX11_orders 52 = .ok (.getfield 29, 3) := by decide +kernel
theorem dX11_orders_55 : decode cX11_orders 55 = .ok (.getfield 172, 3) := by decide +kernel
theorem dX11_orders_58 : decode cX11_orders 58 = .ok (.invokevirtual 145, 3) := by decide +kernel
theorem dX11_orders_61 : decode cX11_orders 61 = .ok (.iload_n 2, 1) := by decide +kernel
theorem dX11_orders_62 : decode cX11_orders 62 = .ok (.ifCond .ne 10, 3) := by decide +kernel
theorem dX11_orders_65 : decode cX11_orders 65 = .ok (.aload_n 0, 1) := by decide +kernel
theorem dX11_orders_66 : decode cX11_orders 66 = .ok (.bipush 10, 2) := by decide +kernel
theorem dX11_orders_68 : decode cX11_orders 68 = .ok (.invokevirtual 106, 3) := by decide +kernel
theorem dX11_orders_71 : decode cX11_orders 71 = .ok (.ireturn, 1) := by decide +kernel
theorem dX11_orders_72 : decode cX11_orders 72 = .ok (.aload_n 0, 1) := by decide +kernel
theorem dX11_orders_73 : decode cX11_orders 73 = .ok (.getfield 36, 3) := by decide +kernel
theorem dX11_orders_76 : decode cX11_orders 76 = .ok (.getfield 173, 3) := by decide +kernel
theorem dX11_orders_79 : decode cX11_orders 79 = .ok (.aload_n 0, 1) := by decide +kernel
theorem dX11_orders_80 : decode cX11_orders 80 = .ok (.getfield 29, 3) := by decide +kernel
theorem dX11_orders_83 : decode cX11_orders 83 = .ok (.getfield 177, 3) := by decide +kernel
theorem dX11_orders_86 : decode cX11_orders 86 = .ok (.invokevirtual 179, 3) := by decide +kernel
theorem dX11_orders_89 : decode cX11_orders 89 = .ok (.aload_n 0, 1) := by decide +kernel
theorem dX11_orders_90 : decode cX11_orders 90 = .ok (.aload_n 0, 1) := by decide +kernel
theorem dX11_orders_91 : decode cX11_orders 91 = .ok (.getfield 36, 3) := by decide +kernel
theorem dX11_orders_94 : decode cX11_orders 94 = .ok (.getfield 173, 3) := by decide +kernel
theorem dX11_orders_97 : decode cX11_orders 97 = .ok (.getfield 185, 3) := by decide +kernel
theorem dX11_orders_100 : decode cX11_orders 100 = .ok (.invokevirtual 165, 3) := by decide +kernel
theorem dX11_orders_103 : decode cX11_orders 103 = .ok (.ireturn, 1) := by decide +kernel
theorem dX11_fault_0 : decode cX11_fault 0 = .ok (.iload_n 1, 1) := by decide +kernel
theorem dX11_fault_1 : decode cX11_fault 1 = .ok (.ifCond .eq 8, 3) := by decide +kernel
theorem dX11_fault_4 : decode cX11_fault 4 = .ok (.iload_n 1, 1) := by decide +kernel
theorem dX11_fault_5 : decode cX11_fault 5 = .ok (.iconst 1, 1) := by decide +kernel
theorem dX11_fault_6 : decode cX11_fault 6 = .ok (.if_icmp .ne 12, 3) := by decide +kernel
theorem dX11_fault_9 : decode cX11_fault 9 = .ok (.aload_n 0, 1) := by decide +kernel
theorem dX11_fault_10 : decode cX11_fault 10 = .ok (.getfield 79, 3) := by decide +kernel
theorem dX11_fault_13 : decode cX11_fault 13 = .ok (.iload_n 1, 1) := by decide +kernel
theorem dX11_fault_14 : decode cX11_fault 14 = .ok (.iaload, 1) := by decide +kernel
theorem dX11_fault_15 : decode cX11_fault 15 = .ok (.goto 4, 3) := by decide +kernel
theorem dX11_fault_18 : decode cX11_fault 18 = .ok (.iconst (-1), 1) := by decide +kernel
theorem dX11_fault_19 : decode cX11_fault 19 = .ok (.ireturn, 1) := by decide +kernel
theorem dX11_many_0 : decode cX11_many 0 = .ok (.iload_n 1, 1) := by decide +kernel
theorem dX11_many_1 : decode cX11_many 1 = .ok (.tableswitch 72 0 2 #[27, 42, 57], 27) := by decide +kernel
theorem dX11_many_28 : decode cX11_many 28 = .ok (.aload_n 0, 1) := by decide +kernel
theorem dX11_many_29 : decode cX11_many 29 = .ok (.aload_n 0, 1) := by decide +kernel
theorem dX11_many_30 : decode cX11_many 30 = .ok (.getfield 36, 3) := by decide +kernel
theorem dX11_many_33 : decode cX11_many 33 = .ok (.getfield 157, 3) := by decide +kernel
theorem dX11_many_36 : decode cX11_many 36 = .ok (.getfield 188, 3) := by decide +kernel
theorem dX11_many_39 : decode cX11_many 39 = .ok (.invokevirtual 165, 3) := by decide +kernel
theorem dX11_many_42 : decode cX11_many 42 = .ok (.ireturn, 1) := by decide +kernel
theorem dX11_many_43 : decode cX11_many 43 = .ok (.aload_n 0, 1) := by decide +kernel
theorem dX11_many_44 : decode cX11_many 44 = .ok (.aload_n 0, 1) := by decide +kernel
theorem dX11_many_45 : decode cX11_many 45 = .ok (.getfield 36, 3) := by decide +kernel
theorem dX11_many_48 : decode cX11_many 48 = .ok (.getfield 157, 3) := by decide +kernel
theorem dX11_many_51 : decode cX11_many 51 = .ok (.getfield 191, 3) := by decide +kernel
theorem dX11_many_54 : decode cX11_many 54 = .ok (.invokevirtual 165, 3) := by decide +kernel
theorem dX11_many_57 : decode cX11_many 57 = .ok (.ireturn, 1) := by decide +kernel
theorem dX11_many_58 : decode cX11_many 58 = .ok (.aload_n 0, 1) := by decide +kernel
theorem dX11_many_59 : decode cX11_many 59 = .ok (.aload_n 0, 1) := by decide +kernel
theorem dX11_many_60 : decode cX11_many 60 = .ok (.getfield 36, 3) := by decide +kernel
theorem dX11_many_63 : decode cX11_many 63 = .ok (.getfield 157, 3) := by decide +kernel
theorem dX11_many_66 : decode cX11_many 66 = .ok (.getfield 194, 3) := by decide +kernel
theorem dX11_many_69 : decode cX11_many 69 = .ok (.invokevirtual 165, 3) := by decide +kernel
theorem dX11_many_72 : decode cX11_many 72 = .ok (.ireturn, 1) := by decide +kernel
theorem dX11_many_73 : decode cX11_many 73 = .ok (.aload_n 0, 1) := by decide +kernel
theorem dX11_many_74 : decode cX11_many 74 = .ok (.iconst 5, 1) := by decide +kernel
theorem dX11_many_75 : decode cX11_many 75 = .ok (.invokevirtual 106, 3) := by decide +kernel
theorem dX11_many_78 : decode cX11_many 78 = .ok (.ireturn, 1) := by decide +kernel
theorem dX11_cell_0 : decode cX11_cell 0 = .ok (.aload_n 0, 1) := by decide +kernel
theorem dX11_cell_1 : decode cX11_cell 1 = .ok (.getfield 36, 3) := by decide +kernel
theorem dX11_cell_4 : decode cX11_cell 4 = .ok (.getfield 157, 3) := by decide +kernel
theorem dX11_cell_7 : decode cX11_cell 7 = .ok (.astore_n 3, 1) := by decide +kernel
theorem dX11_cell_8 : decode cX11_cell 8 = .ok (.aload_n 3, 1) := by decide +kernel
theorem dX11_cell_9 : decode cX11_cell 9 = .ok (.iload_n 1, 1) := by decide +kernel
theorem dX11_cell_10 : decode cX11_cell 10 = .ok (.invokevirtual 197, 3) := by decide +kernel
theorem dX11_cell_13 : decode cX11_cell 13 = .ok (.ifCond .ne 9, 3) := by decide +kernel
theorem dX11_cell_16 : decode cX11_cell 16 = .ok (.aload_n 0, 1) := by decide +kernel
theorem dX11_cell_17 : decode cX11_cell 17 = .ok (.iconst 2, 1) := by decide +kernel
theorem dX11_cell_18 : decode cX11_cell 18 = .ok (.invokevirtual 106, 3) := by decide +kernel
theorem dX11_cell_21 : decode cX11_cell 21 = .ok (.ireturn, 1) := by decide +kernel
theorem dX11_cell_22 : decode cX11_cell 22 = .ok (.iload_n 2, 1) := by decide +kernel
theorem dX11_cell_23 : decode cX11_cell 23 = .ok (.tableswitch 58 0 2 #[25, 36, 47], 25) := by decide +kernel
theorem dX11_cell_48 : decode cX11_cell 48 = .ok (.aload_n 0, 1) := by decide +kernel
theorem dX11_cell_49 : decode cX11_cell 49 = .ok (.aload_n 3, 1) := by decide +kernel
theorem dX11_cell_50 : decode cX11_cell 50 = .ok (.getfield 200, 3) := by decide +kernel
theorem dX11_cell_53 : decode cX11_cell 53 = .ok (.iload_n 1, 1) := by decide +kernel
theorem dX11_cell_54 : decode cX11_cell 54 = .ok (.iaload, 1) := by decide +kernel
theorem dX11_cell_55 : decode cX11_cell 55 = .ok (.invokevirtual 165, 3) := by decide +kernel
theorem dX11_cell_58 : decode cX11_cell 58 = .ok (.ireturn, 1) := by decide +kernel
theorem dX11_cell_59 : decode cX11_cell 59 = .ok (.aload_n 0, 1) := by decide +kernel
theorem dX11_cell_60 : decode cX11_cell 60 = .ok (.aload_n 3, 1) := by decide +kernel
theorem dX11_cell_61 : decode cX11_cell 61 = .ok (.getfield 203, 3) := by decide +kernel
theorem dX11_cell_64 : decode cX11_cell 64 = .ok (.iload_n 1, 1) := by decide +kernel
theorem dX11_cell_65 : decode cX11_cell 65 = .ok (.iaload, 1) := by decide +kernel
theorem dX11_cell_66 : decode cX11_cell 66 = .ok (.invokevirtual 165, 3) := by decide +kernel
theorem dX11_cell_69 : decode cX11_cell 69 = .ok (.ireturn, 1) := by decide +kernel
theorem dX11_cell_70 : decode cX11_cell 70 = .ok (.aload_n 0, 1) := by decide +kernel
theorem dX11_cell_71 : decode cX11_cell 71 = .ok (.aload_n 3, 1) := by decide +kernel
theorem dX11_cell_72 : decode cX11_cell 72 = .ok (.getfield 206, 3) := by decide +kernel
theorem dX11_cell_75 : decode cX11_cell 75 = .ok (.iload_n 1, 1) := by decide +kernel
theorem dX11_cell_76 : decode cX11_cell 76 = .ok (.iaload, 1) := by decide +kernel
theorem dX11_cell_77 : decode cX11_cell 77 = .ok (.invokevirtual 165, 3) := by decide +kernel
theorem dX11_cell_80 : decode cX11_cell 80 = .ok (.ireturn, 1) := by decide +kernel
theorem dX11_cell_81 : decode cX11_cell 81 = .ok (.aload_n 0, 1) := by decide +kernel
theorem dX11_cell_82 : decode cX11_cell 82 = .ok (.iconst 5, 1) := by decide +kernel
theorem dX11_cell_83 : decode cX11_cell 83 = .ok (.invokevirtual 106, 3) := by decide +kernel
theorem dX11_cell_86 : decode cX11_cell 86 = .ok (.ireturn, 1) := by decide +kernel
theorem dX11_village_0 : decode cX11_village 0 = .ok (.aload_n 0, 1) := by decide +kernel
theorem dX11_village_1 : decode cX11_village 1 = .ok (.getfield 36, 3) := by decide +kernel
theorem dX11_village_4 : decode cX11_village 4 = .ok (.getfield 157, 3) := by decide +kernel
theorem dX11_village_7 : decode cX11_village 7 = .ok (.astore_n 3, 1) := by decide +kernel
theorem dX11_village_8 : decode cX11_village 8 = .ok (.aload_n 3, 1) := by decide +kernel
theorem dX11_village_9 : decode cX11_village 9 = .ok (.iload_n 1, 1) := by decide +kernel
theorem dX11_village_10 : decode cX11_village 10 = .ok (.invokevirtual 209, 3) := by decide +kernel
theorem dX11_village_13 : decode cX11_village 13 = .ok (.ifCond .ne 9, 3) := by decide +kernel
theorem dX11_village_16 : decode cX11_village 16 = .ok (.aload_n 0, 1) := by decide +kernel
theorem dX11_village_17 : decode cX11_village 17 = .ok (.iconst 2, 1) := by decide +kernel
theorem dX11_village_18 : decode cX11_village 18 = .ok (.invokevirtual 106, 3) := by decide +kernel
theorem dX11_village_21 : decode cX11_village 21 = .ok (.ireturn, 1) := by decide +kernel
theorem dX11_village_22 : decode cX11_village 22 = .ok (.iload_n 2, 1) := by decide +kernel
theorem dX11_village_23 : decode cX11_village 23 = .ok (.tableswitch 64 0 2 #[25, 36, 46], 25) := by decide +kernel
theorem dX11_village_48 : decode cX11_village 48 = .ok (.aload_n 0, 1) := by decide +kernel
theorem dX11_village_49 : decode cX11_village 49 = .ok (.aload_n 3, 1) := by decide +kernel
theorem dX11_village_50 : decode cX11_village 50 = .ok (.getfield 212, 3) := by decide +kernel
theorem dX11_village_53 : decode cX11_village 53 = .ok (.iload_n 1, 1) := by decide +kernel
theorem dX11_village_54 : decode cX11_village 54 = .ok (.iaload, 1) := by decide +kernel
theorem dX11_village_55 : decode cX11_village 55 = .ok (.invokevirtual 165, 3) := by decide +kernel
theorem dX11_village_58 : decode cX11_village 58 = .ok (.ireturn, 1) := by decide +kernel
theorem dX11_village_59 : decode cX11_village 59 = .ok (.aload_n 0, 1) := by decide +kernel
theorem dX11_village_60 : decode cX11_village 60 = .ok (.aload_n 3, 1) := by decide +kernel
theorem dX11_village_61 : decode cX11_village 61 = .ok (.iload_n 1, 1) := by decide +kernel
theorem dX11_village_62 : decode cX11_village 62 = .ok (.invokevirtual 215, 3) := by decide +kernel
theorem dX11_village_65 : decode cX11_village 65 = .ok (.invokevirtual 165, 3) := by decide +kernel
theorem dX11_village_68 : decode cX11_village 68 = .ok (.ireturn, 1) := by decide +kernel
theorem dX11_village_69 : decode cX11_village 69 = .ok (.aload_n 0, 1) := by decide +kernel
theorem dX11_village_70 : decode cX11_village 70 = .ok (.aload_n 3, 1) := by decide +kernel
theorem dX11_village_71 : decode cX11_village 71 = .ok (.iload_n 1, 1) := by decide +kernel
theorem dX11_village_72 : decode cX11_village 72 = .ok (.invokevirtual 218, 3) := by decide +kernel
theorem dX11_village_75 : decode cX11_village 75 = .ok (.ifCond .eq 7, 3) := by decide +kernel
theorem dX11_village_78 : decode cX11_village 78 = .ok (.iconst 1, 1) := by decide +kernel
theorem dX11_village_79 : decode cX11_village 79 = .ok (.goto 4, 3) := by decide +kernel
theorem dX11_village_82 : decode cX11_village 82 = .ok (.iconst 0, 1) := by decide +kernel
theorem dX11_village_83 : decode cX11_village 83 = .ok (.invokevirtual 165, 3) := by decide +kernel
theorem dX11_village_86 : decode cX11_village 86 = .ok (.ireturn, 1) := by decide +kernel
theorem dX11_village_87 : decode cX11_village 87 = .ok (.aload_n 0, 1) := by decide +kernel
theorem dX11_village_88 : decode cX11_village 88 = .ok (.iconst 5, 1) := by decide +kernel
theorem dX11_village_89 : decode cX11_village 89 = .ok (.invokevirtual 106, 3) := by decide +kernel
theorem dX11_village_92 : decode cX11_village 92 = .ok (.ireturn, 1) := by decide +kernel
theorem dX11_promised_0 : decode cX11_promised 0 = .ok (.aload_n 0, 1) := by decide +kernel
theorem dX11_promised_1 : decode cX11_promised 1 = .ok (.getfield 36, 3) := by decide +kernel
theorem dX11_promised_4 : decode cX11_promised 4 = .ok (.getfield 157, 3) := by decide +kernel
theorem dX11_promised_7 : decode cX11_promised 7 = .ok (.astore_n 3, 1) := by decide +kernel
theorem dX11_promised_8 : decode cX11_promised 8 = .ok (.aload_n 3, 1) := by decide +kernel
theorem dX11_promised_9 : decode cX11_promised 9 = .ok (.iload_n 1, 1) := by decide +kernel
theorem dX11_promised_10 : decode cX11_promised 10 = .ok (.iload_n 2, 1) := by decide +kernel
theorem dX11_promised_11 : decode cX11_promised 11 = .ok (.invokevirtual 221, 3) := by decide +kernel
theorem dX11_promised_14 : decode cX11_promised 14 = .ok (.ifCond .ne 9, 3) := by decide +kernel
theorem dX11_promised_17 : decode cX11_promised 17 = .ok (.aload_n 0, 1) := by decide +kernel
theorem dX11_promised_18 : decode cX11_promised 18 = .ok (.iconst 2, 1) := by decide +kernel
theorem dX11_promised_19 : decode cX11_promised 19 = .ok (.invokevirtual 106, 3) := by decide +kernel
theorem dX11_promised_22 : decode cX11_promised 22 = .ok (.ireturn, 1) := by decide +kernel
theorem dX11_promised_23 : decode cX11_promised 23 = .ok (.aload_n 3, 1) := by decide +kernel
theorem dX11_promised_24 : decode cX11_promised 24 = .ok (.iload_n 1, 1) := by decide +kernel
theorem dX11_promised_25 : decode cX11_promised 25 = .ok (.invokevirtual 218, 3) := by decide +kernel
theorem dX11_promised_28 : decode cX11_promised 28 = .ok (.ifCond .ne 10, 3) := by decide +kernel
theorem dX11_promised_31 : decode cX11_promised 31 = .ok (.aload_n 0, 1) := by decide +kernel
theorem dX11_promised_32 : decode cX11_promised 32 = .ok (.bipush 8, 2) := by decide +kernel
theorem dX11_promised_34 : decode cX11_promised 34 = .ok (.invokevirtual 106, 3) := by decide +kernel
theorem dX11_promised_37 : decode cX11_promised 37 = .ok (.ireturn, 1) := by decide +kernel
theorem dX11_promised_38 : decode cX11_promised 38 = .ok (.aload_n 0, 1) := by decide +kernel
theorem dX11_promised_39 : decode cX11_promised 39 = .ok (.aload_n 3, 1) := by decide +kernel
theorem dX11_promised_40 : decode cX11_promised 40 = .ok (.getfield 224, 3) := by decide +kernel
theorem dX11_promised_43 : decode cX11_promised 43 = .ok (.iload_n 1, 1) := by decide +kernel
theorem dX11_promised_44 : decode cX11_promised 44 = .ok (.bipush 9, 2) := by decide +kernel
theorem dX11_promised_46 : decode cX11_promised 46 = .ok (.imul, 1) := by decide +kernel
theorem dX11_promised_47 : decode cX11_promised 47 = .ok (.iload_n 2, 1) := by decide +kernel
theorem dX11_promised_48 : decode cX11_promised 48 = .ok (.iadd, 1) := by decide +kernel
theorem dX11_promised_49 : decode cX11_promised 49 = .ok (.iaload, 1) := by decide +kernel
theorem dX11_promised_50 : decode cX11_promised 50 = .ok (.invokevirtual 165, 3) := by decide +kernel
theorem dX11_promised_53 : decode cX11_promised 53 = .ok (.ireturn, 1) := by decide +kernel
theorem dX11_strip_0 : decode cX11_strip 0 = .ok (.iload_n 1, 1) := by decide +kernel
theorem dX11_strip_1 : decode cX11_strip 1 = .ok (.ifCond .lt 23, 3) := by decide +kernel
theorem dX11_strip_4 : decode cX11_strip 4 = .ok (.iload_n 1, 1) := by decide +kernel
theorem dX11_strip_5 : decode cX11_strip 5 = .ok (.bipush 8, 2) := by decide +kernel
theorem dX11_strip_7 : decode cX11_strip 7 = .ok (.if_icmp .ge 17, 3) := by decide +kernel
theorem dX11_strip_10 : decode cX11_strip 10 = .ok (.aload_n 0, 1) := by decide +kernel
theorem dX11_strip_11 : decode cX11_strip 11 = .ok (.getfield 36, 3) := by decide +kernel
theorem dX11_strip_14 : decode cX11_strip 14 = .ok (.getfield 157, 3) := by decide +kernel
theorem dX11_strip_17 : decode cX11_strip 17 = .ok (.iload_n 2, 1) := by decide +kernel
theorem dX11_strip_18 : decode cX11_strip 18 = .ok (.invokevirtual 197, 3) := by decide +kernel
theorem dX11_strip_21 : decode cX11_strip 21 = .ok (.ifCond .ne 9, 3) := by decide +kernel
theorem dX11_strip_24 : decode cX11_strip 24 = .ok (.aload_n 0, 1) := by decide +kernel
theorem dX11_strip_25 : decode cX11_strip 25 = .ok (.iconst 2, 1) := by decide +kernel
theorem dX11_strip_26 : decode cX11_strip 26 = .ok (.invokevirtual 106, 3) := by decide +kernel
theorem dX11_strip_29 : decode cX11_strip 29 = .ok (.ireturn, 1) := by decide +kernel
theorem dX11_strip_30 : decode cX11_strip 30 = .ok (.aload_n 0, 1) := by decide +kernel
theorem dX11_strip_31 : decode cX11_strip 31 = .ok (.aload_n 0, 1) := by decide +kernel
theorem dX11_strip_32 : decode cX11_strip 32 = .ok (.getfield 36, 3) := by decide +kernel
theorem dX11_strip_35 : decode cX11_strip 35 = .ok (.getfield 157, 3) := by decide +kernel
theorem dX11_strip_38 : decode cX11_strip 38 = .ok (.iload_n 1, 1) := by decide +kernel
theorem dX11_strip_39 : decode cX11_strip 39 = .ok (.iload_n 2, 1) := by decide +kernel
theorem dX11_strip_40 : decode cX11_strip 40 = .ok (.invokevirtual 227, 3) := by decide +kernel
theorem dX11_strip_43 : decode cX11_strip 43 = .ok (.invokevirtual 165, 3) := by decide +kernel
theorem dX11_strip_46 : decode cX11_strip 46 = .ok (.ireturn, 1) := by decide +kernel
theorem dX11_height_0 : decode cX11_height 0 = .ok (.aload_n 0, 1) := by decide +kernel
theorem dX11_height_1 : decode cX11_height 1 = .ok (.getfield 36, 3) := by decide +kernel
theorem dX11_height_4 : decode cX11_height 4 = .ok (.getfield 157, 3) := by decide +kernel
theorem dX11_height_7 : decode cX11_height 7 = .ok (.iload_n 1, 1) := by decide +kernel
theorem dX11_height_8 : decode cX11_height 8 = .ok (.invokevirtual 197, 3) := by decide +kernel
theorem dX11_height_11 : decode cX11_height 11 = .ok (.ifCond .ne 9, 3) := by decide +kernel
theorem dX11_height_14 : decode cX11_height 14 = .ok (.aload_n 0, 1) := by decide +kernel
theorem dX11_height_15 : decode cX11_height 15 = .ok (.iconst 2, 1) := by decide +kernel
theorem dX11_height_16 : decode cX11_height 16 = .ok (.invokevirtual 106, 3) := by decide +kernel
theorem dX11_height_19 : decode cX11_height 19 = .ok (.ireturn, 1) := by decide +kernel
theorem dX11_height_20 : decode cX11_height 20 = .ok (.aload_n 0, 1) := by decide +kernel
theorem dX11_height_21 : decode cX11_height 21 = .ok (.aload_n 0, 1) := by decide +kernel
theorem dX11_height_22 : decode cX11_height 22 = .ok (.getfield 36, 3) := by decide +kernel
theorem dX11_height_25 : decode cX11_height 25 = .ok (.getfield 230, 3) := by decide +kernel
theorem dX11_height_28 : decode cX11_height 28 = .ok (.iload_n 1, 1) := by decide +kernel
theorem dX11_height_29 : decode cX11_height 29 = .ok (.iaload, 1) := by decide +kernel
theorem dX11_height_30 : decode cX11_height 30 = .ok (.invokevirtual 165, 3) := by decide +kernel
theorem dX11_height_33 : decode cX11_height 33 = .ok (.ireturn, 1) := by decide +kernel
theorem dX11_build_0 : decode cX11_build 0 = .ok (.aload_n 0, 1) := by decide +kernel
theorem dX11_build_1 : decode cX11_build 1 = .ok (.getfield 36, 3) := by decide +kernel
theorem dX11_build_4 : decode cX11_build 4 = .ok (.getfield 157, 3) := by decide +kernel
theorem dX11_build_7 : decode cX11_build 7 = .ok (.iload_n 1, 1) := by decide +kernel
theorem dX11_build_8 : decode cX11_build 8 = .ok (.invokevirtual 197, 3) := by decide +kernel
theorem dX11_build_11 : decode cX11_build 11 = .ok (.ifCond .ne 9, 3) := by decide +kernel
theorem dX11_build_14 : decode cX11_build 14 = .ok (.aload_n 0, 1) := by decide +kernel
theorem dX11_build_15 : decode cX11_build 15 = .ok (.iconst 2, 1) := by decide +kernel
theorem dX11_build_16 : decode cX11_build 16 = .ok (.invokevirtual 91, 3) := by decide +kernel
theorem dX11_build_19 : decode cX11_build 19 = .ok (.ireturn, 1) := by decide +kernel
theorem dX11_build_20 : decode cX11_build 20 = .ok (.iload_n 2, 1) := by decide +kernel
theorem dX11_build_21 : decode cX11_build 21 = .ok (.i2l, 1) := by decide +kernel
theorem dX11_build_22 : decode cX11_build 22 = .ok (.invokestatic 233, 3) := by decide +kernel
theorem dX11_build_25 : decode cX11_build 25 = .ok (.ifCond .ne 9, 3) := by decide +kernel
theorem dX11_build_28 : decode cX11_build 28 = .ok (.aload_n 0, 1) := by decide +kernel
theorem dX11_build_29 : decode cX11_build 29 = .ok (.iconst 5, 1) := by decide +kernel
theorem dX11_build_30 : decode cX11_build 30 = .ok (.invokevirtual 91, 3) := by decide +kernel
theorem dX11_build_33 : decode cX11_build 33 = .ok (.ireturn, 1) := by decide +kernel
theorem dX11_build_34 : decode cX11_build 34 = .ok (.aload_n 0, 1) := by decide +kernel
theorem dX11_build_35 : decode cX11_build 35 = .ok (.getfield 36, 3) := by decide +kernel
theorem dX11_build_38 : decode cX11_build 38 = .ok (.getfield 230, 3) := by decide +kernel
theorem dX11_build_41 : decode cX11_build 41 = .ok (.iload_n 1, 1) := by decide +kernel
theorem dX11_build_42 : decode cX11_build 42 = .ok (.iload_n 2, 1) := by decide +kernel
theorem dX11_build_43 : decode cX11_build 43 = .ok (.iastore, 1) := by decide +kernel
theorem dX11_build_44 : decode cX11_build 44 = .ok (.aload_n 0, 1) := by decide +kernel
theorem dX11_build_45 : decode cX11_build 45 = .ok (.iconst 0, 1) := by decide +kernel
theorem dX11_build_46 : decode cX11_build 46 = .ok (.invokevirtual 91, 3) := by decide +kernel
theorem dX11_build_49 : decode cX11_build 49 = .ok (.ireturn, 1) := by decide +kernel
theorem dX11_buildAll_0 : decode cX11_buildAll 0 = .ok (.aload_n 0, 1) := by decide +kernel
theorem dX11_buildAll_1 : decode cX11_buildAll 1 = .ok (.iload_n 1, 1) := by decide +kernel
theorem dX11_buildAll_2 : decode cX11_buildAll 2 = .ok (.aload_n 0, 1) := by decide +kernel
theorem dX11_buildAll_3 : decode cX11_buildAll 3 = .ok (.getfield 36, 3) := by decide +kernel
theorem dX11_buildAll_6 : decode cX11_buildAll 6 = .ok (.getfield 157, 3) := by decide +kernel
theorem dX11_buildAll_9 : decode cX11_buildAll 9 = .ok (.getfield 160, 3) := by decide +kernel
theorem dX11_buildAll_12 : decode cX11_buildAll 12 = .ok (.invokevirtual 237, 3) := by decide +kernel
theorem dX11_buildAll_15 : decode cX11_buildAll 15 = .ok (.istore_n 2, 1) := by decide +kernel
theorem dX11_buildAll_16 : decode cX11_buildAll 16 = .ok (.iload_n 2, 1) := by decide +kernel
theorem dX11_buildAll_17 : decode cX11_buildAll 17 = .ok (.ifCond .ne 31, 3) := by decide +kernel
theorem dX11_buildAll_20 : decode cX11_buildAll 20 = .ok (.aload_n 0, 1) := by decide +kernel
theorem dX11_buildAll_21 : decode cX11_buildAll 21 = .ok (.getfield 11, 3) := by decide +kernel
theorem dX11_buildAll_24 : decode cX11_buildAll 24 = .ok (.iload_n 1, 1) := by decide +kernel
theorem dX11_buildAll_25 : decode cX11_buildAll 25 = .ok (.aaload, 1) := by decide +kernel
theorem dX11_buildAll_26 : decode cX11_buildAll 26 = .ok (.iconst 0, 1) := by decide +kernel
theorem dX11_buildAll_27 : decode cX11_buildAll 27 = .ok (.aload_n 0, 1) := by decide +kernel
theorem dX11_buildAll_28 : decode cX11_buildAll 28 = .ok (.getfield 36, 3) := by decide +kernel
theorem dX11_buildAll_31 : decode cX11_buildAll 31 = .ok (.getfield 157, 3) := by decide +kernel
theorem dX11_buildAll_34 : decode cX11_buildAll 34 = .ok (.getfield 160, 3) := by decide +kernel
theorem dX11_buildAll_37 : decode cX11_buildAll 37 = .ok (.aload_n 0, 1) := by decide +kernel
theorem dX11_buildAll_38 : decode cX11_buildAll 38 = .ok (.getfield 36, 3) := by decide +kernel
theorem dX11_buildAll_41 : decode cX11_buildAll 41 = .ok (.getfield 230, 3) := by decide +kernel
theorem dX11_buildAll_44 : decode cX11_buildAll 44 = .ok (.iconst 0, 1) := by decide +kernel
theorem dX11_buildAll_45 : decode cX11_buildAll 45 = .ok (.invokevirtual 240, 3) := by decide +kernel
theorem dX11_buildAll_48 : decode cX11_buildAll 48 = .ok (.aload_n 0, 1) := by decide +kernel
theorem dX11_buildAll_49 : decode cX11_buildAll 49 = .ok (.iload_n 2, 1) := by decide +kernel
theorem dX11_buildAll_50 : decode cX11_buildAll 50 = .ok (.invokevirtual 91, 3) := by decide +kernel
theorem dX11_buildAll_53 : decode cX11_buildAll 53 = .ok (.ireturn, 1) := by decide +kernel
theorem dX11_seen_0 : decode cX11_seen 0 = .ok (.aload_n 0, 1) := by decide +kernel
theorem dX11_seen_1 : decode cX11_seen 1 = .ok (.getfield 36, 3) := by decide +kernel
theorem dX11_seen_4 : decode cX11_seen 4 = .ok (.getfield 157, 3) := by decide +kernel
theorem dX11_seen_7 : decode cX11_seen 7 = .ok (.iload_n 1, 1) := by decide +kernel
theorem dX11_seen_8 : decode cX11_seen 8 = .ok (.iload_n 2, 1) := by decide +kernel
theorem dX11_seen_9 : decode cX11_seen 9 = .ok (.invokevirtual 221, 3) := by decide +kernel
theorem dX11_seen_12 : decode cX11_seen 12 = .ok (.ifCond .ne 9, 3) := by decide +kernel
theorem dX11_seen_15 : decode cX11_seen 15 = .ok (.aload_n 0, 1) := by decide +kernel
theorem dX11_seen_16 : decode cX11_seen 16 = .ok (.iconst 2, 1) := by decide +kernel
theorem dX11_seen_17 : decode cX11_seen 17 = .ok (.invokevirtual 106, 3) := by decide +kernel
theorem dX11_seen_20 : decode cX11_seen 20 = .ok (.ireturn, 1) := by decide +kernel
theorem dX11_seen_21 : decode cX11_seen 21 = .ok (.aload_n 0, 1) := by decide +kernel
theorem dX11_seen_22 : decode cX11_seen 22 = .ok (.aload_n 0, 1) := by decide +kernel
theorem dX11_seen_23 : decode cX11_seen 23 = .ok (.getfield 36, 3) := by decide +kernel
theorem dX11_seen_26 : decode cX11_seen 26 = .ok (.getfield 157, 3) := by decide +kernel
theorem dX11_seen_29 : decode cX11_seen 29 = .ok (.iload_n 1, 1) := by decide +kernel
theorem dX11_seen_30 : decode cX11_seen 30 = .ok (.iload_n 2, 1) := by decide +kernel
theorem dX11_seen_31 : decode cX11_seen 31 = .ok (.aload_n 0, 1) := by decide +kernel
theorem dX11_seen_32 : decode cX11_seen 32 = .ok (.getfield 36, 3) := by decide +kernel
theorem dX11_seen_35 : decode cX11_seen 35 = .ok (.getfield 230, 3) := by decide +kernel
theorem dX11_seen_38 : decode cX11_seen 38 = .ok (.invokevirtual 244, 3) := by decide +kernel
theorem dX11_seen_41 : decode cX11_seen 41 = .ok (.invokevirtual 165, 3) := by decide +kernel
theorem dX11_seen_44 : decode cX11_seen 44 = .ok (.ireturn, 1) := by decide +kernel
theorem dX11_otherwise_0 : decode cX11_otherwise 0 = .ok (.iload_n 1, 1) := by decide +kernel
theorem dX11_otherwise_1 : decode cX11_otherwise 1 = .ok (.ifCond .eq 14, 3) := by decide +kernel
theorem dX11_otherwise_4 : decode cX11_otherwise 4 = .ok (.iload_n 1, 1) := by decide +kernel
theorem dX11_otherwise_5 : decode cX11_otherwise 5 = .ok (.iconst 1, 1) := by decide +kernel
theorem dX11_otherwise_6 : decode cX11_otherwise 6 = .ok (.if_icmp .eq 9, 3) := by decide +kernel
theorem dX11_otherwise_9 : decode cX11_otherwise 9 = .ok (.aload_n 0, 1) := by decide +kernel
theorem dX11_otherwise_10 : decode cX11_otherwise 10 = .ok (.iconst 5, 1) := by decide +kernel
theorem dX11_otherwise_11 : decode cX11_otherwise 11 = .ok (.invokevirtual 106, 3) := by decide +kernel
theorem dX11_otherwise_14 : decode cX11_otherwise 14 = .ok (.ireturn, 1) := by decide +kernel
theorem dX11_otherwise_15 : decode cX11_otherwise 15 = .ok (.aload_n 0, 1) := by decide +kernel
theorem dX11_otherwise_16 : decode cX11_otherwise 16 = .ok (.getfield 36, 3) := by decide +kernel
theorem dX11_otherwise_19 : decode cX11_otherwise 19 = .ok (.getfield 157, 3) := by decide +kernel
theorem dX11_otherwise_22 : decode cX11_otherwise 22 = .ok (.aload_n 0, 1) := by decide +kernel
theorem dX11_otherwise_23 : decode cX11_otherwise 23 = .ok (.getfield 36, 3) := by decide +kernel
theorem dX11_otherwise_26 : decode cX11_otherwise 26 = .ok (.getfield 230, 3) := by decide +kernel
theorem dX11_otherwise_29 : decode cX11_otherwise 29 = .ok (.invokevirtual 248, 3) := by decide +kernel
theorem dX11_otherwise_32 : decode cX11_otherwise 32 = .ok (.istore_n 2, 1) := by decide +kernel
theorem dX11_otherwise_33 : decode cX11_otherwise 33 = .ok (.iload_n 2, 1) := by decide +kernel
theorem dX11_otherwise_34 : decode cX11_otherwise 34 = .ok (.iconst (-1), 1) := by decide +kernel
theorem dX11_otherwise_35 : decode cX11_otherwise 35 = .ok (.if_icmp .ne 10, 3) := by decide +kernel
theorem dX11_otherwise_38 : decode cX11_otherwise 38 = .ok (.aload_n 0, 1) := by decide +kernel
theorem dX11_otherwise_39 : decode cX11_otherwise 39 = .ok (.bipush 8, 2) := by decide +kernel
theorem dX11_otherwise_41 : decode cX11_otherwise 41 = .ok (.invokevirtual 106, 3) := by decide +kernel
theorem dX11_otherwise_44 : decode cX11_otherwise 44 = .ok (.ireturn, 1) := by decide +kernel
theorem dX11_otherwise_45 : decode cX11_otherwise 45 = .ok (.aload_n 0, 1) := by decide +kernel
theorem dX11_otherwise_46 : decode cX11_otherwise 46 = .ok (.iload_n 1, 1) := by decide +kernel
theorem dX11_otherwise_47 : decode cX11_otherwise 47 = .ok (.ifCond .ne 7, 3) := by decide +kernel
theorem dX11_otherwise_50 : decode cX11_otherwise 50 = .ok (.iload_n 2, 1) := by decide +kernel
theorem dX11_otherwise_51 : decode cX11_otherwise 51 = .ok (.goto 21, 3) := by decide +kernel
theorem dX11_otherwise_54 : decode cX11_otherwise 54 = .ok (.aload_n 0, 1) := by decide +kernel
theorem dX11_otherwise_55 : decode cX11_otherwise 55 = .ok (.getfield 36, 3) := by decide +kernel
theorem dX11_otherwise_58 : decode cX11_otherwise 58 = .ok (.getfield 157, 3) := by decide +kernel
theorem dX11_otherwise_61 : decode cX11_otherwise 61 = .ok (.iload_n 2, 1) := by decide +kernel
theorem dX11_otherwise_62 : decode cX11_otherwise 62 = .ok (.aload_n 0, 1) := by decide +kernel
theorem dX11_otherwise_63 : decode cX11_otherwise 63 = .ok (.getfield 36, 3) := by decide +kernel
theorem dX11_otherwise_66 : decode cX11_otherwise 66 = .ok (.getfield 230, 3) := by decide +kernel
theorem dX11_otherwise_69 : decode cX11_otherwise 69 = .ok (.invokevirtual 252, 3) := by decide +kernel
theorem dX11_otherwise_72 : decode cX11_otherwise 72 = .ok (.invokevirtual 165, 3) := by decide +kernel
theorem dX11_otherwise_75 : decode cX11_otherwise 75 = .ok (.ireturn, 1) := by decide +kernel
theorem dX11_stone_0 : decode cX11_stone 0 = .ok (.aload_n 0, 1) := by decide +kernel
theorem dX11_stone_1 : decode cX11_stone 1 = .ok (.aload_n 0, 1) := by decide +kernel
theorem dX11_stone_2 : decode cX11_stone 2 = .ok (.getfield 36, 3) := by decide +kernel
theorem dX11_stone_5 : decode cX11_stone 5 = .ok (.getfield 157, 3) := by decide +kernel
theorem dX11_stone_8 : decode cX11_stone 8 = .ok (.aload_n 0, 1) := by decide +kernel
theorem dX11_stone_9 : decode cX11_stone 9 = .ok (.getfield 36, 3) := by decide +kernel
theorem dX11_stone_12 : decode cX11_stone 12 = .ok (.getfield 230, 3) := by decide +kernel
theorem dX11_stone_15 : decode cX11_stone 15 = .ok (.invokevirtual 256, 3) := by decide +kernel
theorem dX11_stone_18 : decode cX11_stone 18 = .ok (.invokevirtual 165, 3) := by decide +kernel
theorem dX11_stone_21 : decode cX11_stone 21 = .ok (.ireturn, 1) := by decide +kernel
theorem dX11_cap_0 : decode cX11_cap 0 = .ok (.aload_n 0, 1) := by decide +kernel
theorem dX11_cap_1 : decode cX11_cap 1 = .ok (.getfield 36, 3) := by decide +kernel
theorem dX11_cap_4 : decode cX11_cap 4 = .ok (.getfield 157, 3) := by decide +kernel
theorem dX11_cap_7 : decode cX11_cap 7 = .ok (.iload_n 1, 1) := by decide +kernel
theorem dX11_cap_8 : decode cX11_cap 8 = .ok (.invokevirtual 197, 3) := by decide +kernel
theorem dX11_cap_11 : decode cX11_cap 11 = .ok (.ifCond .eq 17, 3) := by decide +kernel
theorem dX11_cap_14 : decode cX11_cap 14 = .ok (.aload_n 0, 1) := by decide +kernel
theorem dX11_cap_15 : decode cX11_cap 15 = .ok (.getfield 36, 3) := by decide +kernel
theorem dX11_cap_18 : decode cX11_cap 18 = .ok (.getfield 157, 3) := by decide +kernel
theorem dX11_cap_21 : decode cX11_cap 21 = .ok (.iload_n 2, 1) := by decide +kernel
theorem dX11_cap_22 : decode cX11_cap 22 = .ok (.invokevirtual 259, 3) := by decide +kernel
theorem dX11_cap_25 : decode cX11_cap 25 = .ok (.ifCond .ne 9, 3) := by decide +kernel
theorem dX11_cap_28 : decode cX11_cap 28 = .ok (.aload_n 0, 1) := by decide +kernel
theorem dX11_cap_29 : decode cX11_cap 29 = .ok (.iconst 2, 1) := by decide +kernel
theorem dX11_cap_30 : decode cX11_cap 30 = .ok (.invokevirtual 106, 3) := by decide +kernel
theorem dX11_cap_33 : decode cX11_cap 33 = .ok (.ireturn, 1) := by decide +kernel
theorem dX11_cap_34 : decode cX11_cap 34 = .ok (.aload_n 0, 1) := by decide +kernel
theorem dX11_cap_35 : decode cX11_cap 35 = .ok (.getfield 47, 3) := by decide +kernel
theorem dX11_cap_38 : decode cX11_cap 38 = .ok (.aload_n 0, 1) := by decide +kernel
theorem dX11_cap_39 : decode cX11_cap 39 = .ok (.getfield 36, 3) := by decide +kernel
theorem dX11_cap_42 : decode cX11_cap 42 = .ok (.getfield 157, 3) := by decide +kernel
theorem dX11_cap_45 : decode cX11_cap 45 = .ok (.iload_n 2, 1) := by decide +kernel
theorem dX11_cap_46 : decode cX11_cap 46 = .ok (.invokevirtual 262, 3) := by decide +kernel
theorem dX11_cap_49 : decode cX11_cap 49 = .ok (.aload_n 0, 1) := by decide +kernel
theorem dX11_cap_50 : decode cX11_cap 50 = .ok (.aload_n 0, 1) := by decide +kernel
theorem dX11_cap_51 : decode cX11_cap 51 = .ok (.getfield 47, 3) := by decide +kernel
theorem dX11_cap_54 : decode cX11_cap 54 = .ok (.getfield 266, 3) := by decide +kernel
theorem dX11_cap_57 : decode cX11_cap 57 = .ok (.iload_n 1, 1) := by decide +kernel
theorem dX11_cap_58 : decode cX11_cap 58 = .ok (.iaload, 1) := by decide +kernel
theorem dX11_cap_59 : decode cX11_cap 59 = .ok (.invokevirtual 165, 3) := by decide +kernel
theorem dX11_cap_62 : decode cX11_cap 62 = .ok (.ireturn, 1) := by decide +kernel
theorem dX11_can_0 : decode cX11_can 0 = .ok (.aload_n 0, 1) := by decide +kernel
theorem dX11_can_1 : decode cX11_can 1 = .ok (.getfield 36, 3) := by decide +kernel
theorem dX11_can_4 : decode cX11_can 4 = .ok (.getfield 157, 3) := by decide +kernel
theorem dX11_can_7 : decode cX11_can 7 = .ok (.iload_n 1, 1) := by decide +kernel
theorem dX11_can_8 : decode cX11_can 8 = .ok (.invokevirtual 259, 3) := by decide +kernel
theorem dX11_can_11 : decode cX11_can 11 = .ok (.ifCond .ne 9, 3) := by decide +kernel
theorem dX11_can_14 : decode cX11_can 14 = .ok (.aload_n 0, 1) := by decide +kernel
theorem dX11_can_15 : decode cX11_can 15 = .ok (.iconst 2, 1) := by decide +kernel
theorem dX11_can_16 : decode cX11_can 16 = .ok (.invokevirtual 106, 3) := by decide +kernel
theorem dX11_can_19 : decode cX11_can 19 = .ok (.ireturn, 1) := by decide +kernel
theorem dX11_can_20 : decode cX11_can 20 = .ok (.aload_n 0, 1) := by decide +kernel
theorem dX11_can_21 : decode cX11_can 21 = .ok (.aload_n 0, 1) := by decide +kernel
theorem dX11_can_22 : decode cX11_can 22 = .ok (.iload_n 1, 1) := by decide +kernel
theorem dX11_can_23 : decode cX11_can 23 = .ok (.invokevirtual 269, 3) := by decide +kernel
theorem dX11_can_26 : decode cX11_can 26 = .ok (.ifCond .eq 7, 3) := by decide +kernel
theorem dX11_can_29 : decode cX11_can 29 = .ok (.iconst 1, 1) := by decide +kernel
theorem dX11_can_30 : decode cX11_can 30 = .ok (.goto 4, 3) := by decide +kernel
theorem dX11_can_33 : decode cX11_can 33 = .ok (.iconst 0, 1) := by decide +kernel
theorem dX11_can_34 : decode cX11_can 34 = .ok (.invokevirtual 165, 3) := by decide +kernel
theorem dX11_can_37 : decode cX11_can 37 = .ok (.ireturn, 1) := by decide +kernel
theorem dX11_barred_0 : decode cX11_barred 0 = .ok (.aload_n 0, 1) := by decide +kernel
theorem dX11_barred_1 : decode cX11_barred 1 = .ok (.getfield 36, 3) := by decide +kernel
theorem dX11_barred_4 : decode cX11_barred 4 = .ok (.getfield 157, 3) := by decide +kernel
theorem dX11_barred_7 : decode cX11_barred 7 = .ok (.iload_n 1, 1) := by decide +kernel
theorem dX11_barred_8 : decode cX11_barred 8 = .ok (.invokevirtual 259, 3) := by decide +kernel
theorem dX11_barred_11 : decode cX11_barred 11 = .ok (.ifCond .ne 9, 3) := by decide +kernel
theorem dX11_barred_14 : decode cX11_barred 14 = .ok (.aload_n 0, 1) := by decide +kernel
theorem dX11_barred_15 : decode cX11_barred 15 = .ok (.iconst 2, 1) := by decide +kernel
theorem dX11_barred_16 : decode cX11_barred 16 = .ok (.invokevirtual 106, 3) := by decide +kernel
theorem dX11_barred_19 : decode cX11_barred 19 = .ok (.ireturn, 1) := by decide +kernel
theorem dX11_barred_20 : decode cX11_barred 20 = .ok (.iload_n 2, 1) := by decide +kernel
theorem dX11_barred_21 : decode cX11_barred 21 = .ok (.ifCond .lt 8, 3) := by decide +kernel
theorem dX11_barred_24 : decode cX11_barred 24 = .ok (.iload_n 2, 1) := by decide +kernel
theorem dX11_barred_25 : decode cX11_barred 25 = .ok (.iconst 2, 1) := by decide +kernel
theorem dX11_barred_26 : decode cX11_barred 26 = .ok (.if_icmp .le 9, 3) := by decide +kernel
theorem dX11_barred_29 : decode cX11_barred 29 = .ok (.aload_n 0, 1) := by decide +kernel
theorem dX11_barred_30 : decode cX11_barred 30 = .ok (.iconst 5, 1) := by decide +kernel
theorem dX11_barred_31 : decode cX11_barred 31 = .ok (.invokevirtual 106, 3) := by decide +kernel
theorem dX11_barred_34 : decode cX11_barred 34 = .ok (.ireturn, 1) := by decide +kernel
theorem dX11_barred_35 : decode cX11_barred 35 = .ok (.aload_n 0, 1) := by decide +kernel
theorem dX11_barred_36 : decode cX11_barred 36 = .ok (.iload_n 1, 1) := by decide +kernel
theorem dX11_barred_37 : decode cX11_barred 37 = .ok (.invokevirtual 269, 3) := by decide +kernel
theorem dX11_barred_40 : decode cX11_barred 40 = .ok (.ifCond .eq 10, 3) := by decide +kernel
theorem dX11_barred_43 : decode cX11_barred 43 = .ok (.aload_n 0, 1) := by decide +kernel
theorem dX11_barred_44 : decode cX11_barred 44 = .ok (.bipush 8, 2) := by decide +kernel
theorem dX11_barred_46 : decode cX11_barred 46 = .ok (.invokevirtual 106, 3) := by decide +kernel
theorem dX11_barred_49 : decode cX11_barred 49 = .ok (.ireturn, 1) := by decide +kernel
theorem dX11_barred_50 : decode cX11_barred 50 = .ok (.aload_n 0, 1) := by decide +kernel
theorem dX11_barred_51 : decode cX11_barred 51 = .ok (.aload_n 0, 1) := by decide +kernel
theorem dX11_barred_52 : decode cX11_barred 52 = .ok (.getfield 47, 3) := by decide +kernel
theorem dX11_barred_55 : decode cX11_barred 55 = .ok (.getfield 272, 3) := by decide +kernel
theorem dX11_barred_58 : decode cX11_barred 58 = .ok (.iload_n 2, 1) := by decide +kernel
theorem dX11_barred_59 : decode cX11_barred 59 = .ok (.iaload, 1) := by decide +kernel
theorem dX11_barred_60 : decode cX11_barred 60 = .ok (.invokevirtual 165, 3) := by decide +kernel
theorem dX11_barred_63 : decode cX11_barred 63 = .ok (.ireturn, 1) := by decide +kernel
theorem dX11_largest_0 : decode cX11_largest 0 = .ok (.aload_n 0, 1) := by decide +kernel
theorem dX11_largest_1 : decode cX11_largest 1 = .ok (.iload_n 1, 1) := by decide +kernel
theorem dX11_largest_2 : decode cX11_largest 2 = .ok (.invokevirtual 275, 3) := by decide +kernel
theorem dX11_largest_5 : decode cX11_largest 5 = .ok (.istore_n 2, 1) := by decide +kernel
theorem dX11_largest_6 : decode cX11_largest 6 = .ok (.iload_n 2, 1) := by decide +kernel
theorem dX11_largest_7 : decode cX11_largest 7 = .ok (.ifCond .eq 9, 3) := by decide +kernel
theorem dX11_largest_10 : decode cX11_largest 10 = .ok (.aload_n 0, 1) := by decide +kernel
theorem dX11_largest_11 : decode cX11_largest 11 = .ok (.iload_n 2, 1) := by decide +kernel
theorem dX11_largest_12 : decode cX11_largest 12 = .ok (.invokevirtual 106, 3) := by decide +kernel
theorem dX11_largest_15 : decode cX11_largest 15 = .ok (.ireturn, 1) := by decide +kernel
theorem dX11_largest_16 : decode cX11_largest 16 = .ok (.aload_n 0, 1) := by decide +kernel
theorem dX11_largest_17 : decode cX11_largest 17 = .ok (.getfield 47, 3) := by decide +kernel
theorem dX11_largest_20 : decode cX11_largest 20 = .ok (.getfield 266, 3) := by decide +kernel
theorem dX11_largest_23 : decode cX11_largest 23 = .ok (.iconst 0, 1) := by decide +kernel
theorem dX11_largest_24 : decode cX11_largest 24 = .ok (.aload_n 0, 1) := by decide +kernel
theorem dX11_largest_25 : decode cX11_largest 25 = .ok (.getfield 36, 3) := by decide +kernel
theorem dX11_largest_28 : decode cX11_largest 28 = .ok (.getfield 230, 3) := by decide +kernel
theorem dX11_largest_31 : decode cX11_largest 31 = .ok (.iconst 0, 1) := by decide +kernel
theorem dX11_largest_32 : decode cX11_largest 32 = .ok (.aload_n 0, 1) := by decide +kernel
theorem dX11_largest_33 : decode cX11_largest 33 = .ok (.getfield 36, 3) := by decide +kernel
theorem dX11_largest_36 : decode cX11_largest 36 = .ok (.getfield 157, 3) := by decide +kernel
theorem dX11_largest_39 : decode cX11_largest 39 = .ok (.getfield 160, 3) := by decide +kernel
theorem dX11_largest_42 : decode cX11_largest 42 = .ok (.invokestatic 124, 3) := by decide +kernel
theorem dX11_largest_45 : decode cX11_largest 45 = .ok (.aload_n 0, 1) := by decide +kernel
theorem dX11_largest_46 : decode cX11_largest 46 = .ok (.aload_n 0, 1) := by decide +kernel
theorem dX11_largest_47 : decode cX11_largest 47 = .ok (.getfield 36, 3) := by decide +kernel
theorem dX11_largest_50 : decode cX11_largest 50 = .ok (.getfield 157, 3) := by decide +kernel
theorem dX11_largest_53 : decode cX11_largest 53 = .ok (.aload_n 0, 1) := by decide +kernel
theorem dX11_largest_54 : decode cX11_largest 54 = .ok (.getfield 36, 3) := by decide +kernel
theorem dX11_largest_57 : decode cX11_largest 57 = .ok (.getfield 230, 3) := by decide +kernel
theorem dX11_largest_60 : decode cX11_largest 60 = .ok (.invokevirtual 256, 3) := by decide +kernel
theorem dX11_largest_63 : decode cX11_largest 63 = .ok (.invokevirtual 165, 3) := by decide +kernel
theorem dX11_largest_66 : decode cX11_largest 66 = .ok (.ireturn, 1) := by decide +kernel
theorem dX11_cheapest_0 : decode cX11_cheapest 0 = .ok (.aload_n 0, 1) := by decide +kernel
theorem dX11_cheapest_1 : decode cX11_cheapest 1 = .ok (.iload_n 1, 1) := by decide +kernel
theorem dX11_cheapest_2 : decode cX11_cheapest 2 = .ok (.invokevirtual 275, 3) := by decide +kernel
theorem dX11_cheapest_5 : decode cX11_cheapest 5 = .ok (.istore_n 2, 1) := by decide +kernel
theorem dX11_cheapest_6 : decode cX11_cheapest 6 = .ok (.iload_n 2, 1) := by decide +kernel
theorem dX11_cheapest_7 : decode cX11_cheapest 7 = .ok (.ifCond .eq 9, 3) := by decide +kernel
theorem dX11_cheapest_10 : decode cX11_cheapest 10 = .ok (.aload_n 0, 1) := by decide +kernel
theorem dX11_cheapest_11 : decode cX11_cheapest 11 = .ok (.iload_n 2, 1) := by decide +kernel
theorem dX11_cheapest_12 : decode cX11_cheapest 12 = .ok (.invokevirtual 106, 3) := by decide +kernel
theorem dX11_cheapest_15 : decode cX11_cheapest 15 = .ok (.ireturn, 1) := by decide +kernel
theorem dX11_cheapest_16 : decode cX11_cheapest 16 = .ok (.aload_n 0, 1) := by decide +kernel
theorem dX11_cheapest_17 : decode cX11_cheapest 17 = .ok (.getfield 47, 3) := by decide +kernel
theorem dX11_cheapest_20 : decode cX11_cheapest 20 = .ok (.aload_n 0, 1) := by decide +kernel
theorem dX11_cheapest_21 : decode cX11_cheapest 21 = .ok (.getfield 36, 3) := by decide +kernel
theorem dX11_cheapest_24 : decode cX11_cheapest 24 = .ok (.getfield 157, 3) := by decide +kernel
theorem dX11_cheapest_27 : decode cX11_cheapest 27 = .ok (.aload_n 0, 1) := by decide +kernel
theorem dX11_cheapest_28 : decode cX11_cheapest 28 = .ok (.getfield 36, 3) := by decide +kernel
theorem dX11_cheapest_31 : decode cX11_cheapest 31 = .ok (.getfield 230, 3) := by decide +kernel
theorem dX11_cheapest_34 : decode cX11_cheapest 34 = .ok (.invokevirtual 278, 3) := by decide +kernel
theorem dX11_cheapest_37 : decode cX11_cheapest 37 = .ok (.aload_n 0, 1) := by decide +kernel
theorem dX11_cheapest_38 : decode cX11_cheapest 38 = .ok (.aload_n 0, 1) := by decide +kernel
theorem dX11_cheapest_39 : decode cX11_cheapest 39 = .ok (.getfield 36, 3) := by decide +kernel
theorem dX11_cheapest_42 : decode cX11_cheapest 42 = .ok (.getfield 157, 3) := by decide +kernel
theorem dX11_cheapest_45 : decode cX11_cheapest 45 = .ok (.aload_n 0, 1) := by decide +kernel
theorem dX11_cheapest_46 : decode cX11_cheapest 46 = .ok (.getfield 36, 3) := by decide +kernel
theorem dX11_cheapest_49 : decode cX11_cheapest 49 = .ok (.getfield 230, 3) := by decide +kernel
theorem dX11_cheapest_52 : decode cX11_cheapest 52 = .ok (.invokevirtual 256, 3) := by decide +kernel
theorem dX11_cheapest_55 : decode cX11_cheapest 55 = .ok (.invokevirtual 165, 3) := by decide +kernel
theorem dX11_cheapest_58 : decode cX11_cheapest 58 = .ok (.ireturn, 1) := by decide +kernel
theorem dX11_least_0 : decode cX11_least 0 = .ok (.aload_n 0, 1) := by decide +kernel
theorem dX11_least_1 : decode cX11_least 1 = .ok (.iload_n 1, 1) := by decide +kernel
theorem dX11_least_2 : decode cX11_least 2 = .ok (.invokevirtual 275, 3) := by decide +kernel
theorem dX11_least_5 : decode cX11_least 5 = .ok (.istore_n 2, 1) := by decide +kernel
theorem dX11_least_6 : decode cX11_least 6 = .ok (.iload_n 2, 1) := by decide +kernel
theorem dX11_least_7 : decode cX11_least 7 = .ok (.ifCond .eq 9, 3) := by decide +kernel
theorem dX11_least_10 : decode cX11_least 10 = .ok (.aload_n 0, 1) := by decide +kernel
theorem dX11_least_11 : decode cX11_least 11 = .ok (.iload_n 2, 1) := by decide +kernel
theorem dX11_least_12 : decode cX11_least 12 = .ok (.invokevirtual 106, 3) := by decide +kernel
theorem dX11_least_15 : decode cX11_least 15 = .ok (.ireturn, 1) := by decide +kernel
theorem dX11_least_16 : decode cX11_least 16 = .ok (.aload_n 0, 1) := by decide +kernel
theorem dX11_least_17 : decode cX11_least 17 = .ok (.getfield 47, 3) := by decide +kernel
theorem dX11_least_20 : decode cX11_least 20 = .ok (.aload_n 0, 1) := by decide +kernel
theorem dX11_least_21 : decode cX11_least 21 = .ok (.getfield 36, 3) := by decide +kernel
theorem dX11_least_24 : decode cX11_least 24 = .ok (.getfield 157, 3) := by decide +kernel
theorem dX11_least_27 : decode cX11_least 27 = .ok (.aload_n 0, 1) := by decide +kernel
theorem dX11_least_28 : decode cX11_least 28 = .ok (.getfield 69, 3) := by decide +kernel
theorem dX11_least_31 : decode cX11_least 31 = .ok (.invokevirtual 278, 3) := by decide +kernel
theorem dX11_least_34 : decode cX11_least 34 = .ok (.aload_n 0, 1) := by decide +kernel
theorem dX11_least_35 : decode cX11_least 35 = .ok (.getfield 36, 3) := by decide +kernel
theorem dX11_least_38 : decode cX11_least 38 = .ok (.getfield 157, 3) := by decide +kernel
theorem dX11_least_41 : decode cX11_least 41 = .ok (.aload_n 0, 1) := by decide +kernel
theorem dX11_least_42 : decode cX11_least 42 = .ok (.getfield 69, 3) := by decide +kernel
theorem dX11_least_45 : decode cX11_least 45 = .ok (.invokevirtual 256, 3) := by decide +kernel
theorem dX11_least_48 : decode cX11_least 48 = .ok (.istore_n 3, 1) := by decide +kernel
theorem dX11_least_49 : decode cX11_least 49 = .ok (.aload_n 0, 1) := by decide +kernel
theorem dX11_least_50 : decode cX11_least 50 = .ok (.getfield 36, 3) := by decide +kernel
theorem dX11_least_53 : decode cX11_least 53 = .ok (.getfield 157, 3) := by decide +kernel
theorem dX11_least_56 : decode cX11_least 56 = .ok (.aload_n 0, 1) := by decide +kernel
theorem dX11_least_57 : decode cX11_least 57 = .ok (.getfield 47, 3) := by decide +kernel
theorem dX11_least_60 : decode cX11_least 60 = .ok (.getfield 266, 3) := by decide +kernel
theorem dX11_least_63 : decode cX11_least 63 = .ok (.invokevirtual 256, 3) := by decide +kernel
theorem dX11_least_66 : decode cX11_least 66 = .ok (.istore 4, 2) := by decide +kernel
theorem dX11_least_68 : decode cX11_least 68 = .ok (.aload_n 0, 1) := by decide +kernel
theorem dX11_least_69 : decode cX11_least 69 = .ok (.iload_n 3, 1) := by decide +kernel
theorem dX11_least_70 : decode cX11_least 70 = .ok (.iload 4, 2) := by decide +kernel
theorem dX11_least_72 : decode cX11_least 72 = .ok (.invokevirtual 282, 3) := by decide +kernel
theorem dX11_least_75 : decode cX11_least 75 = .ok (.aload_n 0, 1) := by decide +kernel
theorem dX11_least_76 : decode cX11_least 76 = .ok (.iload_n 3, 1) := by decide +kernel
theorem dX11_least_77 : decode cX11_least 77 = .ok (.invokevirtual 165, 3) := by decide +kernel
theorem dX11_least_80 : decode cX11_least 80 = .ok (.ireturn, 1) := by decide +kernel
theorem dX11_courts_0 : decode cX11_courts 0 = .ok (.aload_n 0, 1) := by decide +kernel
theorem dX11_courts_1 : decode cX11_courts 1 = .ok (.iload_n 1, 1) := by decide +kernel
theorem dX11_courts_2 : decode cX11_courts 2 = .ok (.invokevirtual 275, 3) := by decide +kernel
theorem dX11_courts_5 : decode cX11_courts 5 = .ok (.istore_n 2, 1) := by decide +kernel
theorem dX11_courts_6 : decode cX11_courts 6 = .ok (.iload_n 2, 1) := by decide +kernel
theorem dX11_courts_7 : decode cX11_courts 7 = .ok (.ifCond .eq 9, 3) := by decide +kernel
theorem dX11_courts_10 : decode cX11_courts 10 = .ok (.aload_n 0, 1) := by decide +kernel
theorem dX11_courts_11 : decode cX11_courts 11 = .ok (.iload_n 2, 1) := by decide +kernel
theorem dX11_courts_12 : decode cX11_courts 12 = .ok (.invokevirtual 106, 3) := by decide +kernel
theorem dX11_courts_15 : decode cX11_courts 15 = .ok (.ireturn, 1) := by decide +kernel
theorem dX11_courts_16 : decode cX11_courts 16 = .ok (.aload_n 0, 1) := by decide +kernel
theorem dX11_courts_17 : decode cX11_courts 17 = .ok (.aload_n 0, 1) := by decide +kernel
theorem dX11_courts_18 : decode cX11_courts 18 = .ok (.getfield 36, 3) := by decide +kernel
theorem dX11_courts_21 : decode cX11_courts 21 = .ok (.getfield 157, 3) := by decide +kernel
theorem dX11_courts_24 : decode cX11_courts 24 = .ok (.getfield 160, 3) := by decide +kernel
theorem dX11_courts_27 : decode cX11_courts 27 = .ok (.aload_n 0, 1) := by decide +kernel
theorem dX11_courts_28 : decode cX11_courts 28 = .ok (.getfield 47, 3) := by decide +kernel
theorem dX11_courts_31 : decode cX11_courts 31 = .ok (.aload_n 0, 1) := by decide +kernel
theorem dX11_courts_32 : decode cX11_courts 32 = .ok (.getfield 36, 3) := by decide +kernel
theorem dX11_courts_35 : decode cX11_courts 35 = .ok (.getfield 157, 3) := by decide +kernel
theorem dX11_courts_38 : decode cX11_courts 38 = .ok (.invokevirtual 285, 3) := by decide +kernel
theorem dX11_courts_41 : decode cX11_courts 41 = .ok (.isub, 1) := by decide +kernel
theorem dX11_courts_42 : decode cX11_courts 42 = .ok (.invokevirtual 165, 3) := by decide +kernel
theorem dX11_courts_45 : decode cX11_courts 45 = .ok (.ireturn, 1) := by decide +kernel
theorem dX11_towns_0 : decode cX11_towns 0 = .ok (.aload_n 0, 1) := by decide +kernel
theorem dX11_towns_1 : decode cX11_towns 1 = .ok (.getfield 36, 3) := by decide +kernel
theorem dX11_towns_4 : decode cX11_towns 4 = .ok (.getfield 157, 3) := by decide +kernel
theorem dX11_towns_7 : decode cX11_towns 7 = .ok (.iload_n 1, 1) := by decide +kernel
theorem dX11_towns_8 : decode cX11_towns 8 = .ok (.invokevirtual 259, 3) := by decide +kernel
theorem dX11_towns_11 : decode cX11_towns 11 = .ok (.ifCond .ne 9, 3) := by decide +kernel
theorem dX11_towns_14 : decode cX11_towns 14 = .ok (.aload_n 0, 1) := by decide +kernel
theorem dX11_towns_15 : decode cX11_towns 15 = .ok (.iconst 2, 1) := by decide +kernel
theorem dX11_towns_16 : decode cX11_towns 16 = .ok (.invokevirtual 106, 3) := by decide +kernel
theorem dX11_towns_19 : decode cX11_towns 19 = .ok (.ireturn, 1) := by decide +kernel
theorem dX11_towns_20 : decode cX11_towns 20 = .ok (.aload_n 0, 1) := by decide +kernel
theorem dX11_towns_21 : decode cX11_towns 21 = .ok (.getfield 36, 3) := by decide +kernel
theorem dX11_towns_24 : decode cX11_towns 24 = .ok (.getfield 157, 3) := by decide +kernel
theorem dX11_towns_27 : decode cX11_towns 27 = .ok (.iload_n 1, 1) := by decide +kernel
theorem dX11_towns_28 : decode cX11_towns 28 = .ok (.invokevirtual 289, 3) := by decide +kernel
theorem dX11_towns_31 : decode cX11_towns 31 = .ok (.bipush 16, 2) := by decide +kernel
theorem dX11_towns_33 : decode cX11_towns 33 = .ok (.if_icmp .le 10, 3) := by decide +kernel
theorem dX11_towns_36 : decode cX11_towns 36 = .ok (.aload_n 0, 1) := by decide +kernel
theorem dX11_towns_37 : decode cX11_towns 37 = .ok (.bipush 7, 2) := by decide +kernel
theorem dX11_towns_39 : decode cX11_towns 39 = .ok (.invokevirtual 106, 3) := by decide +kernel
theorem dX11_towns_42 : decode cX11_towns 42 = .ok (.ireturn, 1) := by decide +kernel
theorem dX11_towns_43 : decode cX11_towns 43 = .ok (.aload_n 0, 1) := by decide +kernel
theorem dX11_towns_44 : decode cX11_towns 44 = .ok (.aload_n 0, 1) := by decide +kernel
theorem dX11_towns_45 : decode cX11_towns 45 = .ok (.iload_n 1, 1) := by decide +kernel
theorem dX11_towns_46 : decode cX11_towns 46 = .ok (.invokevirtual 269, 3) := by decide +kernel
theorem dX11_towns_49 : decode cX11_towns 49 = .ok (.ifCond .eq 20, 3) := by decide +kernel
theorem dX11_towns_52 : decode cX11_towns 52 = .ok (.aload_n 0, 1) := by decide +kernel
theorem dX11_towns_53 : decode cX11_towns 53 = .ok (.getfield 47, 3) := by decide +kernel
theorem dX11_towns_56 : decode cX11_towns 56 = .ok (.aload_n 0, 1) := by decide +kernel
theorem dX11_towns_57 : decode cX11_towns 57 = .ok (.getfield 36, 3) := by decide +kernel
theorem dX11_towns_60 : decode cX11_towns 60 = .ok (.getfield 157, 3) := by decide +kernel
theorem dX11_towns_63 : decode cX11_towns 63 = .ok (.invokevirtual 292, 3) := by decide +kernel
theorem dX11_towns_66 : decode cX11_towns 66 = .ok (.goto 4, 3) := by decide +kernel
theorem dX11_towns_69 : decode cX11_towns 69 = .ok (.iconst 0, 1) := by decide +kernel
theorem dX11_towns_70 : decode cX11_towns 70 = .ok (.invokevirtual 165, 3) := by decide +kernel
theorem dX11_towns_73 : decode cX11_towns 73 = .ok (.ireturn, 1) := by decide +kernel
theorem dX11_sure_0 : decode cX11_sure 0 = .ok (.aload_n 0, 1) := by decide +kernel
theorem dX11_sure_1 : decode cX11_sure 1 = .ok (.getfield 36, 3) := by decide +kernel
theorem dX11_sure_4 : decode cX11_sure 4 = .ok (.getfield 157, 3) := by decide +kernel
theorem dX11_sure_7 : decode cX11_sure 7 = .ok (.iload_n 1, 1) := by decide +kernel
theorem dX11_sure_8 : decode cX11_sure 8 = .ok (.invokevirtual 259, 3) := by decide +kernel
theorem dX11_sure_11 : decode cX11_sure 11 = .ok (.ifCond .eq 17, 3) := by decide +kernel
theorem dX11_sure_14 : decode cX11_sure 14 = .ok (.aload_n 0, 1) := by decide +kernel
theorem dX11_sure_15 : decode cX11_sure 15 = .ok (.getfield 36, 3) := by decide +kernel
theorem dX11_sure_18 : decode cX11_sure 18 = .ok (.getfield 157, 3) := by decide +kernel
theorem dX11_sure_21 : decode cX11_sure 21 = .ok (.iload_n 2, 1) := by decide +kernel
theorem dX11_sure_22 : decode cX11_sure 22 = .ok (.invokevirtual 197, 3) := by decide +kernel
theorem dX11_sure_25 : decode cX11_sure 25 = .ok (.ifCond .ne 9, 3) := by decide +kernel
theorem dX11_sure_28 : decode cX11_sure 28 = .ok (.aload_n 0, 1) := by decide +kernel
theorem dX11_sure_29 : decode cX11_sure 29 = .ok (.iconst 2, 1) := by decide +kernel
theorem dX11_sure_30 : decode cX11_sure 30 = .ok (.invokevirtual 106, 3) := by decide +kernel
theorem dX11_sure_33 : decode cX11_sure 33 = .ok (.ireturn, 1) := by decide +kernel
theorem dX11_sure_34 : decode cX11_sure 34 = .ok (.iload_n 3, 1) := by decide +kernel
theorem dX11_sure_35 : decode cX11_sure 35 = .ok (.ifCond .eq 14, 3) := by decide +kernel
theorem dX11_sure_38 : decode cX11_sure 38 = .ok (.iload_n 3, 1) := by decide +kernel
theorem dX11_sure_39 : decode cX11_sure 39 = .ok (.iconst 1, 1) := by decide +kernel
theorem dX11_sure_40 : decode cX11_sure 40 = .ok (.if_icmp .eq 9, 3) := by decide +kernel
theorem dX11_sure_43 : decode cX11_sure 43 = .ok (.aload_n 0, 1) := by decide +kernel
theorem dX11_sure_44 : decode cX11_sure 44 = .ok (.iconst 5, 1) := by decide +kernel
theorem dX11_sure_45 : decode cX11_sure 45 = .ok (.invokevirtual 106, 3) := by decide +kernel
theorem dX11_sure_48 : decode cX11_sure 48 = .ok (.ireturn, 1) := by decide +kernel
theorem dX11_sure_49 : decode cX11_sure 49 = .ok (.aload_n 0, 1) := by decide +kernel
theorem dX11_sure_50 : decode cX11_sure 50 = .ok (.iload_n 1, 1) := by decide +kernel
theorem dX11_sure_51 : decode cX11_sure 51 = .ok (.invokevirtual 269, 3) := by decide +kernel
theorem dX11_sure_54 : decode cX11_sure 54 = .ok (.ifCond .ne 10, 3) := by decide +kernel
theorem dX11_sure_57 : decode cX11_sure 57 = .ok (.aload_n 0, 1) := by decide +kernel
theorem dX11_sure_58 : decode cX11_sure 58 = .ok (.bipush 9, 2) := by decide +kernel
theorem dX11_sure_60 : decode cX11_sure 60 = .ok (.invokevirtual 106, 3) := by decide +kernel
theorem dX11_sure_63 : decode cX11_sure 63 = .ok (.ireturn, 1) := by decide +kernel
theorem dX11_sure_64 : decode cX11_sure 64 = .ok (.iload_n 3, 1) := by decide +kernel
theorem dX11_sure_65 : decode cX11_sure 65 = .ok (.iconst 1, 1) := by decide +kernel
theorem dX11_sure_66 : decode cX11_sure 66 = .ok (.if_icmp .eq 21, 3) := by decide +kernel
theorem dX11_sure_69 : decode cX11_sure 69 = .ok (.aload_n 0, 1) := by decide +kernel
theorem dX11_sure_70 : decode cX11_sure 70 = .ok (.getfield 47, 3) := by decide +kernel
theorem dX11_sure_73 : decode cX11_sure 73 = .ok (.aload_n 0, 1) := by decide +kernel
theorem dX11_sure_74 : decode cX11_sure 74 = .ok (.getfield 36, 3) := by decide +kernel
theorem dX11_sure_77 : decode cX11_sure 77 = .ok (.getfield 157, 3) := by decide +kernel
theorem dX11_sure_80 : decode cX11_sure 80 = .ok (.iload_n 2, 1) := by decide +kernel
theorem dX11_sure_81 : decode cX11_sure 81 = .ok (.invokevirtual 295, 3) := by decide +kernel
theorem dX11_sure_84 : decode cX11_sure 84 = .ok (.ifCond .eq 7, 3) := by decide +kernel
theorem dX11_sure_87 : decode cX11_sure 87 = .ok (.iconst 1, 1) := by decide +kernel
theorem dX11_sure_88 : decode cX11_sure 88 = .ok (.goto 4, 3) := by decide +kernel
theorem dX11_sure_91 : decode cX11_sure 91 = .ok (.iconst 0, 1) := by decide +kernel
theorem dX11_sure_92 : decode cX11_sure 92 = .ok (.istore 4, 2) := by decide +kernel
theorem dX11_sure_94 : decode cX11_sure 94 = .ok (.aload_n 0, 1) := by decide +kernel
theorem dX11_sure_95 : decode cX11_sure 95 = .ok (.iload 4, 2) := by decide +kernel
theorem dX11_sure_97 : decode cX11_sure 97 = .ok (.ifCond .eq 15, 3) := by decide +kernel
theorem dX11_sure_100 : decode cX11_sure 100 = .ok (.aload_n 0, 1) := by decide +kernel
theorem dX11_sure_101 : decode cX11_sure 101 = .ok (.getfield 47, 3) := by decide +kernel
theorem dX11_sure_104 : decode cX11_sure 104 = .ok (.getfield 266, 3) := by decide +kernel
theorem dX11_sure_107 : decode cX11_sure 107 = .ok (.iload_n 2, 1) := by decide +kernel
theorem dX11_sure_108 : decode cX11_sure 108 = .ok (.iaload, 1) := by decide +kernel
theorem dX11_sure_109 : decode cX11_sure 109 = .ok (.goto 15, 3) := by decide +kernel
theorem dX11_sure_112 : decode cX11_sure 112 = .ok (.aload_n 0, 1) := by decide +kernel
theorem dX11_sure_113 : decode cX11_sure 113 = .ok (.getfield 36, 3) := by decide +kernel
theorem dX11_sure_116 : decode cX11_sure 116 = .ok (.getfield 157, 3) := by decide +kernel
theorem dX11_sure_119 : decode cX11_sure 119 = .ok (.getfield 203, 3) := by decide +kernel
theorem dX11_sure_122 : decode cX11_sure 122 = .ok (.iload_n 2, 1) := by decide +kernel
theorem dX11_sure_123 : decode cX11_sure 123 = .ok (.iaload, 1) := by decide +kernel
theorem dX11_sure_124 : decode cX11_sure 124 = .ok (.invokevirtual 165, 3) := by decide +kernel
theorem dX11_sure_127 : decode cX11_sure 127 = .ok (.ireturn, 1) := by decide +kernel
theorem dX11_struck_0 : decode cX11_struck 0 = .ok (.iconst 1, 1) := by decide +kernel
theorem dX11_struck_1 : decode cX11_struck 1 = .ok (.aload_n 0, 1) := by decide +kernel
theorem dX11_struck_2 : decode cX11_struck 2 = .ok (.getfield 36, 3) := by decide +kernel
theorem dX11_struck_5 : decode cX11_struck 5 = .ok (.getfield 157, 3) := by decide +kernel
theorem dX11_struck_8 : decode cX11_struck 8 = .ok (.getfield 194, 3) := by decide +kernel
theorem dX11_struck_11 : decode cX11_struck 11 = .ok (.ishl, 1) := by decide +kernel
theorem dX11_struck_12 : decode cX11_struck 12 = .ok (.iconst 1, 1) := by decide +kernel
theorem dX11_struck_13 : decode cX11_struck 13 = .ok (.isub, 1) := by decide +kernel
theorem dX11_struck_14 : decode cX11_struck 14 = .ok (.istore_n 1, 1) := by decide +kernel
theorem dX11_struck_15 : decode cX11_struck 15 = .ok (.iconst (-1), 1) := by decide +kernel
theorem dX11_struck_16 : decode cX11_struck 16 = .ok (.istore_n 2, 1) := by decide +kernel
theorem dX11_struck_17 : decode cX11_struck 17 = .ok (.iconst 0, 1) := by decide +kernel
theorem dX11_struck_18 : decode cX11_struck 18 = .ok (.istore_n 3, 1) := by decide +kernel
theorem dX11_struck_19 : decode cX11_struck 19 = .ok (.iload_n 3, 1) := by decide +kernel
theorem dX11_struck_20 : decode cX11_struck 20 = .ok (.iload_n 1, 1) := by decide +kernel
theorem dX11_struck_21 : decode cX11_struck 21 = .ok (.if_icmp .gt 51, 3) := by decide +kernel
theorem dX11_struck_24 : decode cX11_struck 24 = .ok (.iload_n 2, 1) := by decide +kernel
theorem dX11_struck_25 : decode cX11_struck 25 = .ok (.iconst (-1), 1) := by decide +kernel
theorem dX11_struck_26 : decode cX11_struck 26 = .ok (.if_icmp .eq 14, 3) := by decide +kernel
theorem dX11_struck_29 : decode cX11_struck 29 = .ok (.iload_n 3, 1) := by decide +kernel
theorem dX11_struck_30 : decode cX11_struck 30 = .ok (.invokestatic 299, 3) := by decide +kernel
theorem dX11_struck_33 : decode cX11_struck 33 = .ok (.iload_n 2, 1) := by decide +kernel
theorem dX11_struck_34 : decode cX11_struck 34 = .ok (.invokestatic 299, 3) := by decide +kernel
theorem dX11_struck_37 : decode cX11_struck 37 = .ok (.if_icmp .ge 7, 3) := by decide +kernel
theorem dX11_struck_40 : decode cX11_struck 40 = .ok (.iconst 1, 1) := by decide +kernel
theorem dX11_struck_41 : decode cX11_struck 41 = .ok (.goto 4, 3) := by decide +kernel
theorem dX11_struck_44 : decode cX11_struck 44 = .ok (.iconst 0, 1) := by decide +kernel
theorem dX11_struck_45 : decode cX11_struck 45 = .ok (.istore 4, 2) := by decide +kernel
theorem dX11_struck_47 : decode cX11_struck 47 = .ok (.iload 4, 2) := by decide +kernel
theorem dX11_struck_49 : decode cX11_struck 49 = .ok (.ifCond .eq 17, 3) := by decide +kernel
theorem dX11_struck_52 : decode cX11_struck 52 = .ok (.aload_n 0, 1) := by decide +kernel
theorem dX11_struck_53 : decode cX11_struck 53 = .ok (.iload_n 1, 1) := by decide +kernel
theorem dX11_struck_54 : decode cX11_struck 54 = .ok (.iload_n 3, 1) := by decide +kernel
theorem dX11_struck_55 : decode cX11_struck 55 = .ok (.iconst (-1), 1) := by decide +kernel
theorem dX11_struck_56 : decode cX11_struck 56 = .ok (.ixor, 1) := by decide +kernel
theorem dX11_struck_57 : decode cX11_struck 57 = .ok (.iand, 1) := by decide +kernel
theorem dX11_struck_58 : decode cX11_struck 58 = .ok (.invokevirtual 269, 3) := by decide +kernel
theorem dX11_struck_61 : decode cX11_struck 61 = .ok (.ifCond .eq 5, 3) := by decide +kernel
theorem dX11_struck_64 : decode cX11_struck 64 = .ok (.iload_n 3, 1) := by decide +kernel
theorem dX11_struck_65 : decode cX11_struck 65 = .ok (.istore_n 2, 1) := by decide +kernel
theorem dX11_struck_66 : decode cX11_struck 66 = .ok (.iinc 3 1, 3) := by decide +kernel
theorem dX11_struck_69 : decode cX11_struck 69 = .ok (.goto (-50), 3) := by decide +kernel
theorem dX11_struck_72 : decode cX11_struck 72 = .ok (.iload_n 2, 1) := by decide +kernel
theorem dX11_struck_73 : decode cX11_struck 73 = .ok (.iconst (-1), 1) := by decide +kernel
theorem dX11_struck_74 : decode cX11_struck 74 = .ok (.if_icmp .ne 12, 3) := by decide +kernel
theorem dX11_struck_77 : decode cX11_struck 77 = .ok (.aload_n 0, 1) := by decide +kernel
theorem dX11_struck_78 : decode cX11_struck 78 = .ok (.bipush 9, 2) := by decide +kernel
theorem dX11_struck_80 : decode cX11_struck 80 = .ok (.invokevirtual 106, 3) := by decide +kernel
theorem dX11_struck_83 : decode cX11_struck 83 = .ok (.goto 8, 3) := by decide +kernel
theorem dX11_struck_86 : decode cX11_struck 86 = .ok (.aload_n 0, 1) := by decide +kernel
theorem dX11_struck_87 : decode cX11_struck 87 = .ok (.iload_n 2, 1) := by decide +kernel
theorem dX11_struck_88 : decode cX11_struck 88 = .ok (.invokevirtual 165, 3) := by decide +kernel
theorem dX11_struck_91 : decode cX11_struck 91 = .ok (.ireturn, 1) := by decide +kernel
theorem dX11_down_0 : decode cX11_down 0 = .ok (.aload_n 0, 1) := by decide +kernel
theorem dX11_down_1 : decode cX11_down 1 = .ok (.getfield 36, 3) := by decide +kernel
theorem dX11_down_4 : decode cX11_down 4 = .ok (.getfield 157, 3) := by decide +kernel
theorem dX11_down_7 : decode cX11_down 7 = .ok (.astore_n 2, 1) := by decide +kernel
theorem dX11_down_8 : decode cX11_down 8 = .ok (.aload_n 2, 1) := by decide +kernel
theorem dX11_down_9 : decode cX11_down 9 = .ok (.iload_n 1, 1) := by decide +kernel
theorem dX11_down_10 : decode cX11_down 10 = .ok (.invokevirtual 197, 3) := by decide +kernel
theorem dX11_down_13 : decode cX11_down 13 = .ok (.ifCond .ne 9, 3) := by decide +kernel
theorem dX11_down_16 : decode cX11_down 16 = .ok (.aload_n 0, 1) := by decide +kernel
theorem dX11_down_17 : decode cX11_down 17 = .ok (.iconst 2, 1) := by decide +kernel
theorem dX11_down_18 : decode cX11_down 18 = .ok (.invokevirtual 106, 3) := by decide +kernel
theorem dX11_down_21 : decode cX11_down 21 = .ok (.ireturn, 1) := by decide +kernel
theorem dX11_down_22 : decode cX11_down 22 = .ok (.aload_n 0, 1) := by decide +kernel
theorem dX11_down_23 : decode cX11_down 23 = .ok (.getfield 36, 3) := by decide +kernel
theorem dX11_down_26 : decode cX11_down 26 = .ok (.getfield 230, 3) := by decide +kernel
theorem dX11_down_29 : decode cX11_down 29 = .ok (.iconst 0, 1) := by decide +kernel
theorem dX11_down_30 : decode cX11_down 30 = .ok (.aload_n 0, 1) := by decide +kernel
theorem dX11_down_31 : decode cX11_down 31 = .ok (.getfield 69, 3) := by decide +kernel
theorem dX11_down_34 : decode cX11_down 34 = .ok (.iconst 0, 1) := by decide +kernel
theorem dX11_down_35 : decode cX11_down 35 = .ok (.aload_n 2, 1) := by decide +kernel
theorem dX11_down_36 : decode cX11_down 36 = .ok (.getfield 160, 3) := by decide +kernel
theorem dX11_down_39 : decode cX11_down 39 = .ok (.invokestatic 124, 3) := by decide +kernel
theorem dX11_down_42 : decode cX11_down 42 = .ok (.aload_n 0, 1) := by decide +kernel
theorem dX11_down_43 : decode cX11_down 43 = .ok (.getfield 69, 3) := by decide +kernel
theorem dX11_down_46 : decode cX11_down 46 = .ok (.iload_n 1, 1) := by decide +kernel
theorem dX11_down_47 : decode cX11_down 47 = .ok (.aload_n 0, 1) := by decide +kernel
theorem dX11_down_48 : decode cX11_down 48 = .ok (.getfield 69, 3) := by decide +kernel
theorem dX11_down_51 : decode cX11_down 51 = .ok (.iload_n 1, 1) := by decide +kernel
theorem dX11_down_52 : decode cX11_down 52 = .ok (.iaload, 1) := by decide +kernel
theorem dX11_down_53 : decode cX11_down 53 = .ok (.aload_n 2, 1) := by decide +kernel
theorem dX11_down_54 : decode cX11_down 54 = .ok (.getfield 203, 3) := by decide +kernel
theorem dX11_down_57 : decode cX11_down 57 = .ok (.iload_n 1, 1) := by decide +kernel
theorem dX11_down_58 : decode cX11_down 58 = .ok (.iaload, 1) := by decide +kernel
theorem dX11_down_59 : decode cX11_down 59 = .ok (.invokestatic 304, 3) := by decide +kernel
theorem dX11_down_62 : decode cX11_down 62 = .ok (.iastore, 1) := by decide +kernel
theorem dX11_down_63 : decode cX11_down 63 = .ok (.iconst 0, 1) := by decide +kernel
theorem dX11_down_64 : decode cX11_down 64 = .ok (.istore_n 3, 1) := by decide +kernel
theorem dX11_down_65 : decode cX11_down 65 = .ok (.iconst 0, 1) := by decide +kernel
theorem dX11_down_66 : decode cX11_down 66 = .ok (.istore 4, 2) := by decide +kernel
theorem dX11_down_68 : decode cX11_down 68 = .ok (.iload 4, 2) := by decide +kernel
theorem dX11_down_70 : decode cX11_down 70 = .ok (.aload_n 2, 1) := by decide +kernel
theorem dX11_down_71 : decode cX11_down 71 = .ok (.getfield 194, 3) := by decide +kernel
theorem dX11_down_74 : decode cX11_down 74 = .ok (.if_icmp .ge 56, 3) := by decide +kernel
theorem dX11_down_77 : decode cX11_down 77 = .ok (.aload_n 2, 1) := by decide +kernel
theorem dX11_down_78 : decode cX11_down 78 = .ok (.aload_n 2, 1) := by decide +kernel
theorem dX11_down_79 : decode cX11_down 79 = .ok (.getfield 212, 3) := by decide +kernel
theorem dX11_down_82 : decode cX11_down 82 = .ok (.iload 4, 2) := by decide +kernel
theorem dX11_down_84 : decode cX11_down 84 = .ok (.iaload, 1) := by decide +kernel
theorem dX11_down_85 : decode cX11_down 85 = .ok (.iload_n 1, 1) := by decide +kernel
theorem dX11_down_86 : decode cX11_down 86 = .ok (.invokevirtual 227, 3) := by decide +kernel
theorem dX11_down_89 : decode cX11_down 89 = .ok (.istore 5, 2) := by decide +kernel
theorem dX11_down_91 : decode cX11_down 91 = .ok (.aload_n 2, 1) := by decide +kernel
theorem dX11_down_92 : decode cX11_down 92 = .ok (.iload 4, 2) := by decide +kernel
theorem dX11_down_94 : decode cX11_down 94 = .ok (.iload 5, 2) := by decide +kernel
theorem dX11_down_96 : decode cX11_down 96 = .ok (.aload_n 0, 1) := by decide +kernel
theorem dX11_down_97 : decode cX11_down 97 = .ok (.getfield 69, 3) := by decide +kernel
theorem dX11_down_100 : decode cX11_down 100 = .ok (.invokevirtual 244, 3) := by decide +kernel
theorem dX11_down_103 : decode cX11_down 103 = .ok (.aload_n 2, 1) := by decide +kernel
theorem dX11_down_104 : decode cX11_down 104 = .ok (.iload 4, 2) := by decide +kernel
theorem dX11_down_106 : decode cX11_down 106 = .ok (.iload 5, 2) := by decide +kernel
theorem dX11_down_108 : decode cX11_down 108 = .ok (.aload_n 0, 1) := by decide +kernel
theorem dX11_down_109 : decode cX11_down 109 = .ok (.getfield 36, 3) := by decide +kernel
theorem dX11_down_112 : decode cX11_down 112 = .ok (.getfield 230, 3) := by decide +kernel
theorem dX11_down_115 : decode cX11_down 115 = .ok (.invokevirtual 244, 3) := by decide +kernel
theorem dX11_down_118 : decode cX11_down 118 = .ok (.if_icmp .eq 6, 3) := by decide +kernel
theorem dX11_down_121 : decode cX11_down 121 = .ok (.iinc 3 1, 3) := by decide +kernel
theorem dX11_down_124 : decode cX11_down 124 = .ok (.iinc 4 1, 3) := by decide +kernel
theorem dX11_down_127 : decode cX11_down 127 = .ok (.goto (-59), 3) := by decide +kernel
theorem dX11_down_130 : decode cX11_down 130 = .ok (.aload_n 0, 1) := by decide +kernel
theorem dX11_down_131 : decode cX11_down 131 = .ok (.iload_n 3, 1) := by decide +kernel
theorem dX11_down_132 : decode cX11_down 132 = .ok (.invokevirtual 165, 3) := by decide +kernel
theorem dX11_down_135 : decode cX11_down 135 = .ok (.ireturn, 1) := by decide +kernel
theorem dX11_instead_0 : decode cX11_instead 0 = .ok (.aload_n 0, 1) := by decide +kernel
theorem dX11_instead_1 : decode cX11_instead 1 = .ok (.getfield 36, 3) := by decide +kernel
theorem dX11_instead_4 : decode cX11_instead 4 = .ok (.getfield 157, 3) := by decide +kernel
theorem dX11_instead_7 : decode cX11_instead 7 = .ok (.astore_n 2, 1) := by decide +kernel
theorem dX11_instead_8 : decode cX11_instead 8 = .ok (.aload_n 2, 1) := by decide +kernel
theorem dX11_instead_9 : decode cX11_instead 9 = .ok (.iload_n 1, 1) := by decide +kernel
theorem dX11_instead_10 : decode cX11_instead 10 = .ok (.invokevirtual 197, 3) := by decide +kernel
theorem dX11_instead_13 : decode cX11_instead 13 = .ok (.ifCond .ne 9, 3) := by decide +kernel
theorem dX11_instead_16 : decode cX11_instead 16 = .ok (.aload_n 0, 1) := by decide +kernel
theorem dX11_instead_17 : decode cX11_instead 17 = .ok (.iconst 2, 1) := by decide +kernel
theorem dX11_instead_18 : decode cX11_instead 18 = .ok (.invokevirtual 106, 3) := by decide +kernel
theorem dX11_instead_21 : decode cX11_instead 21 = .ok (.ireturn, 1) := by decide +kernel
theorem dX11_instead_22 : decode cX11_instead 22 = .ok (.aload_n 0, 1) := by decide +kernel
theorem dX11_instead_23 : decode cX11_instead 23 = .ok (.getfield 47, 3) := by decide +kernel
theorem dX11_instead_26 : decode cX11_instead 26 = .ok (.aload_n 2, 1) := by decide +kernel
theorem dX11_instead_27 : decode cX11_instead 27 = .ok (.aload_n 0, 1) := by decide +kernel
theorem dX11_instead_28 : decode cX11_instead 28 = .ok (.getfield 36, 3) := by decide +kernel
theorem dX11_instead_31 : decode cX11_instead 31 = .ok (.getfield 230, 3) := by decide +kernel
theorem dX11_instead_34 : decode cX11_instead 34 = .ok (.invokevirtual 309, 3) := by decide +kernel
theorem dX11_instead_37 : decode cX11_instead 37 = .ok (.aload_n 0, 1) := by decide +kernel
theorem dX11_instead_38 : decode cX11_instead 38 = .ok (.getfield 47, 3) := by decide +kernel
theorem dX11_instead_41 : decode cX11_instead 41 = .ok (.aload_n 2, 1) := by decide +kernel
theorem dX11_instead_42 : decode cX11_instead 42 = .ok (.iload_n 1, 1) := by decide +kernel
theorem dX11_instead_43 : decode cX11_instead 43 = .ok (.invokevirtual 312, 3) := by decide +kernel
theorem dX11_instead_46 : decode cX11_instead 46 = .ok (.aload_n 0, 1) := by decide +kernel
theorem dX11_instead_47 : decode cX11_instead 47 = .ok (.getfield 47, 3) := by decide +kernel
theorem dX11_instead_50 : decode cX11_instead 50 = .ok (.aload_n 2, 1) := by decide +kernel
theorem dX11_instead_51 : decode cX11_instead 51 = .ok (.invokevirtual 315, 3) := by decide +kernel
theorem dX11_instead_54 : decode cX11_instead 54 = .ok (.ifCond .ne 10, 3) := by decide +kernel
theorem dX11_instead_57 : decode cX11_instead 57 = .ok (.aload_n 0, 1) := by decide +kernel
theorem dX11_instead_58 : decode cX11_instead 58 = .ok (.bipush 9, 2) := by decide +kernel
theorem dX11_instead_60 : decode cX11_instead 60 = .ok (.invokevirtual 106, 3) := by decide +kernel
theorem dX11_instead_63 : decode cX11_instead 63 = .ok (.ireturn, 1) := by decide +kernel
theorem dX11_instead_64 : decode cX11_instead 64 = .ok (.aload_n 0, 1) := by decide +kernel
theorem dX11_instead_65 : decode cX11_instead 65 = .ok (.getfield 47, 3) := by decide +kernel
theorem dX11_instead_68 : decode cX11_instead 68 = .ok (.aload_n 2, 1) := by decide +kernel
theorem dX11_instead_69 : decode cX11_instead 69 = .ok (.aload_n 0, 1) := by decide +kernel
theorem dX11_instead_70 : decode cX11_instead 70 = .ok (.getfield 69, 3) := by decide +kernel
theorem dX11_instead_73 : decode cX11_instead 73 = .ok (.invokevirtual 278, 3) := by decide +kernel
theorem dX11_instead_76 : decode cX11_instead 76 = .ok (.aload_n 0, 1) := by decide +kernel
theorem dX11_instead_77 : decode cX11_instead 77 = .ok (.aload_n 2, 1) := by decide +kernel
theorem dX11_instead_78 : decode cX11_instead 78 = .ok (.aload_n 0, 1) := by decide +kernel
theorem dX11_instead_79 : decode cX11_instead 79 = .ok (.getfield 69, 3) := by decide +kernel
theorem dX11_instead_82 : decode cX11_instead 82 = .ok (.invokevirtual 256, 3) := by decide +kernel
theorem dX11_instead_85 : decode cX11_instead 85 = .ok (.invokevirtual 165, 3) := by decide +kernel
theorem dX11_instead_88 : decode cX11_instead 88 = .ok (.ireturn, 1) := by decide +kernel
theorem dX11_apart_0 : decode cX11_apart 0 = .ok (.iload_n 1, 1) := by decide +kernel
theorem dX11_apart_1 : decode cX11_apart 1 = .ok (.invokestatic 87, 3) := by decide +kernel
theorem dX11_apart_4 : decode cX11_apart 4 = .ok (.ifCond .eq 10, 3) := by decide +kernel
theorem dX11_apart_7 : decode cX11_apart 7 = .ok (.iload_n 2, 1) := by decide +kernel
theorem dX11_apart_8 : decode cX11_apart 8 = .ok (.invokestatic 87, 3) := by decide +kernel
theorem dX11_apart_11 : decode cX11_apart 11 = .ok (.ifCond .ne 9, 3) := by decide +kernel
theorem dX11_apart_14 : decode cX11_apart 14 = .ok (.aload_n 0, 1) := by decide +kernel
theorem dX11_apart_15 : decode cX11_apart 15 = .ok (.iconst 1, 1) := by decide +kernel
theorem dX11_apart_16 : decode cX11_apart 16 = .ok (.invokevirtual 106, 3) := by decide +kernel
theorem dX11_apart_19 : decode cX11_apart 19 = .ok (.ireturn, 1) := by decide +kernel
theorem dX11_apart_20 : decode cX11_apart 20 = .ok (.aload_n 0, 1) := by decide +kernel
theorem dX11_apart_21 : decode cX11_apart 21 = .ok (.getfield 36, 3) := by decide +kernel
theorem dX11_apart_24 : decode cX11_apart 24 = .ok (.getfield 157, 3) := by decide +kernel
theorem dX11_apart_27 : decode cX11_apart 27 = .ok (.astore 4, 2) := by decide +kernel
theorem dX11_apart_29 : decode cX11_apart 29 = .ok (.aload 4, 2) := by decide +kernel
theorem dX11_apart_31 : decode cX11_apart 31 = .ok (.iload_n 3, 1) := by decide +kernel
theorem dX11_apart_32 : decode cX11_apart 32 = .ok (.invokevirtual 209, 3) := by decide +kernel
theorem dX11_apart_35 : decode cX11_apart 35 = .ok (.ifCond .ne 9, 3) := by decide +kernel
theorem dX11_apart_38 : decode cX11_apart 38 = .ok (.aload_n 0, 1) := by decide +kernel
theorem dX11_apart_39 : decode cX11_apart 39 = .ok (.iconst 2, 1) := by decide +kernel
theorem dX11_apart_40 : decode cX11_apart 40 = .ok (.invokevirtual 106, 3) := by decide +kernel
theorem dX11_apart_43 : decode cX11_apart 43 = .ok (.ireturn, 1) := by decide +kernel
theorem dX11_apart_44 : decode cX11_apart 44 = .ok (.aload_n 0, 1) := by decide +kernel
theorem dX11_apart_45 : decode cX11_apart 45 = .ok (.getfield 11, 3) := by decide +kernel
theorem dX11_apart_48 : decode cX11_apart 48 = .ok (.iload_n 1, 1) := by decide +kernel
theorem dX11_apart_49 : decode cX11_apart 49 = .ok (.aaload, 1) := by decide +kernel
theorem dX11_apart_50 : decode cX11_apart 50 = .ok (.aload_n 0, 1) := by decide +kernel
theorem dX11_apart_51 : decode cX11_apart 51 = .ok (.getfield 11, 3) := by decide +kernel
theorem dX11_apart_54 : decode cX11_apart 54 = .ok (.iload_n 2, 1) := by decide +kernel
theorem dX11_apart_55 : decode cX11_apart 55 = .ok (.aaload, 1) := by decide +kernel
theorem dX11_apart_56 : decode cX11_apart 56 = .ok (.aload 4, 2) := by decide +kernel
theorem dX11_apart_58 : decode cX11_apart 58 = .ok (.getfield 160, 3) := by decide +kernel
theorem dX11_apart_61 : decode cX11_apart 61 = .ok (.invokestatic 319, 3) := by decide +kernel
theorem dX11_apart_64 : decode cX11_apart 64 = .ok (.istore 5, 2) := by decide +kernel
theorem dX11_apart_66 : decode cX11_apart 66 = .ok (.iload 5, 2) := by decide +kernel
theorem dX11_apart_68 : decode cX11_apart 68 = .ok (.ifCond .eq 10, 3) := by decide +kernel
theorem dX11_apart_71 : decode cX11_apart 71 = .ok (.aload_n 0, 1) := by decide +kernel
theorem dX11_apart_72 : decode cX11_apart 72 = .ok (.iload 5, 2) := by decide +kernel
theorem dX11_apart_74 : decode cX11_apart 74 = .ok (.invokevirtual 106, 3) := by decide +kernel
theorem dX11_apart_77 : decode cX11_apart 77 = .ok (.ireturn, 1) := by decide +kernel
theorem dX11_apart_78 : decode cX11_apart 78 = .ok (.aload_n 0, 1) := by decide +kernel
theorem dX11_apart_79 : decode cX11_apart 79 = .ok (.getfield 11, 3) := by decide +kernel
theorem dX11_apart_82 : decode cX11_apart 82 = .ok (.iload_n 1, 1) := by decide +kernel
theorem dX11_apart_83 : decode cX11_apart 83 = .ok (.aaload, 1) := by decide +kernel
theorem dX11_apart_84 : decode cX11_apart 84 = .ok (.iconst 0, 1) := by decide +kernel
theorem dX11_apart_85 : decode cX11_apart 85 = .ok (.aload 4, 2) := by decide +kernel
theorem dX11_apart_87 : decode cX11_apart 87 = .ok (.getfield 160, 3) := by decide +kernel
theorem dX11_apart_90 : decode cX11_apart 90 = .ok (.aload_n 0, 1) := by decide +kernel
theorem dX11_apart_91 : decode cX11_apart 91 = .ok (.getfield 54, 3) := by decide +kernel
theorem dX11_apart_94 : decode cX11_apart 94 = .ok (.getfield 323, 3) := by decide +kernel
theorem dX11_apart_97 : decode cX11_apart 97 = .ok (.iconst 0, 1) := by decide +kernel
theorem dX11_apart_98 : decode cX11_apart 98 = .ok (.invokevirtual 240, 3) := by decide +kernel
theorem dX11_apart_101 : decode cX11_apart 101 = .ok (.aload_n 0, 1) := by decide +kernel
theorem dX11_apart_102 : decode cX11_apart 102 = .ok (.getfield 11, 3) := by decide +kernel
theorem dX11_apart_105 : decode cX11_apart 105 = .ok (.iload_n 2, 1) := by decide +kernel
theorem dX11_apart_106 : decode cX11_apart 106 = .ok (.aaload, 1) := by decide +kernel
theorem dX11_apart_107 : decode cX11_apart 107 = .ok (.iconst 0, 1) := by decide +kernel
theorem dX11_apart_108 : decode cX11_apart 108 = .ok (.aload 4, 2) := by decide +kernel
theorem dX11_apart_110 : decode cX11_apart 110 = .ok (.getfield 160, 3) := by decide +kernel
theorem dX11_apart_113 : decode cX11_apart 113 = .ok (.aload_n 0, 1) := by decide +kernel
theorem dX11_apart_114 : decode cX11_apart 114 = .ok (.getfield 54, 3) := by decide +kernel
theorem dX11_apart_117 : decode cX11_apart 117 = .ok (.getfield 326, 3) := by decide +kernel
theorem dX11_apart_120 : decode cX11_apart 120 = .ok (.iconst 0, 1) := by decide +kernel
theorem dX11_apart_121 : decode cX11_apart 121 = .ok (.invokevirtual 240, 3) := by decide +kernel
theorem dX11_apart_124 : decode cX11_apart 124 = .ok (.aload_n 0, 1) := by decide +kernel
theorem dX11_apart_125 : decode cX11_apart 125 = .ok (.getfield 54, 3) := by decide +kernel
theorem dX11_apart_128 : decode cX11_apart 128 = .ok (.aload 4, 2) := by decide +kernel
theorem dX11_apart_130 : decode cX11_apart 130 = .ok (.iload_n 3, 1) := by decide +kernel
theorem dX11_apart_131 : decode cX11_apart 131 = .ok (.invokevirtual 329, 3) := by decide +kernel
theorem dX11_apart_134 : decode cX11_apart 134 = .ok (.istore 6, 2) := by decide +kernel
theorem dX11_apart_136 : decode cX11_apart 136 = .ok (.iload 6, 2) := by decide +kernel
theorem dX11_apart_138 : decode cX11_apart 138 = .ok (.iconst (-1), 1) := by decide +kernel
theorem dX11_apart_139 : decode cX11_apart 139 = .ok (.if_icmp .ne 12, 3) := by decide +kernel
theorem dX11_apart_142 : decode cX11_apart 142 = .ok (.aload_n 0, 1) := by decide +kernel
theorem dX11_apart_143 : decode cX11_apart 143 = .ok (.bipush 8, 2) := by decide +kernel
theorem dX11_apart_145 : decode cX11_apart 145 = .ok (.invokevirtual 106, 3) := by decide +kernel
theorem dX11_apart_148 : decode cX11_apart 148 = .ok (.goto 9, 3) := by decide +kernel
theorem dX11_apart_151 : decode cX11_apart 151 = .ok (.aload_n 0, 1) := by decide +kernel
theorem dX11_apart_152 : decode cX11_apart 152 = .ok (.iload 6, 2) := by decide +kernel
theorem dX11_apart_154 : decode cX11_apart 154 = .ok (.invokevirtual 165, 3) := by decide +kernel
theorem dX11_apart_157 : decode cX11_apart 157 = .ok (.ireturn, 1) := by decide +kernel
theorem dX11_watchers_0 : decode cX11_watchers 0 = .ok (.aload_n 0, 1) := by decide +kernel
theorem dX11_watchers_1 : decode cX11_watchers 1 = .ok (.iload_n 1, 1) := by decide +kernel
theorem dX11_watchers_2 : decode cX11_watchers 2 = .ok (.iload_n 2, 1) := by decide +kernel
theorem dX11_watchers_3 : decode cX11_watchers 3 = .ok (.iconst 2, 1) := by decide +kernel
theorem dX11_watchers_4 : decode cX11_watchers 4 = .ok (.iconst 4, 1) := by decide +kernel
theorem dX11_watchers_5 : decode cX11_watchers 5 = .ok (.aload_n 0, 1) := by decide +kernel
theorem dX11_watchers_6 : decode cX11_watchers 6 = .ok (.getfield 36, 3) := by decide +kernel
theorem dX11_watchers_9 : decode cX11_watchers 9 = .ok (.getfield 157, 3) := by decide +kernel
theorem dX11_watchers_12 : decode cX11_watchers 12 = .ok (.getfield 160, 3) := by decide +kernel
theorem dX11_watchers_15 : decode cX11_watchers 15 = .ok (.invokevirtual 333, 3) := by decide +kernel
theorem dX11_watchers_18 : decode cX11_watchers 18 = .ok (.istore_n 3, 1) := by decide +kernel
theorem dX11_watchers_19 : decode cX11_watchers 19 = .ok (.iload_n 3, 1) := by decide +kernel
theorem dX11_watchers_20 : decode cX11_watchers 20 = .ok (.ifCond .eq 9, 3) := by decide +kernel
theorem dX11_watchers_23 : decode cX11_watchers 23 = .ok (.aload_n 0, 1) := by decide +kernel
theorem dX11_watchers_24 : decode cX11_watchers 24 = .ok (.iload_n 3, 1) := by decide +kernel
theorem dX11_watchers_25 : decode cX11_watchers 25 = .ok (.invokevirtual 106, 3) := by decide +kernel
theorem dX11_watchers_28 : decode cX11_watchers 28 = .ok (.ireturn, 1) := by decide +kernel
theorem dX11_watchers_29 : decode cX11_watchers 29 = .ok (.aload_n 0, 1) := by decide +kernel
theorem dX11_watchers_30 : decode cX11_watchers 30 = .ok (.getfield 54, 3) := by decide +kernel
theorem dX11_watchers_33 : decode cX11_watchers 33 = .ok (.aload_n 0, 1) := by decide +kernel
theorem dX11_watchers_34 : decode cX11_watchers 34 = .ok (.getfield 36, 3) := by decide +kernel
theorem dX11_watchers_37 : decode cX11_watchers 37 = .ok (.getfield 157, 3) := by decide +kernel
theorem dX11_watchers_40 : decode cX11_watchers 40 = .ok (.aload_n 0, 1) := by decide +kernel
theorem dX11_watchers_41 : decode cX11_watchers 41 = .ok (.getfield 11, 3) := by decide +kernel
theorem dX11_watchers_44 : decode cX11_watchers 44 = .ok (.iload_n 1, 1) := by decide +kernel
theorem dX11_watchers_45 : decode cX11_watchers 45 = .ok (.aaload, 1) := by decide +kernel
theorem dX11_watchers_46 : decode cX11_watchers 46 = .ok (.iload_n 2, 1) := by decide +kernel
theorem dX11_watchers_47 : decode cX11_watchers 47 = .ok (.invokevirtual 337, 3) := by decide +kernel
theorem dX11_watchers_50 : decode cX11_watchers 50 = .ok (.istore 4, 2) := by decide +kernel
theorem dX11_watchers_52 : decode cX11_watchers 52 = .ok (.iload 4, 2) := by decide +kernel
theorem dX11_watchers_54 : decode cX11_watchers 54 = .ok (.iconst (-1), 1) := by decide +kernel
theorem dX11_watchers_55 : decode cX11_watchers 55 = .ok (.if_icmp .ne 12, 3) := by decide +kernel
theorem dX11_watchers_58 : decode cX11_watchers 58 = .ok (.aload_n 0, 1) := by decide +kernel
theorem dX11_watchers_59 : decode cX11_watchers 59 = .ok (.bipush 9, 2) := by decide +kernel
theorem dX11_watchers_61 : decode cX11_watchers 61 = .ok (.invokevirtual 106, 3) := by decide +kernel
theorem dX11_watchers_64 : decode cX11_watchers 64 = .ok (.goto 9, 3) := by decide +kernel
theorem dX11_watchers_67 : decode cX11_watchers 67 = .ok (.aload_n 0, 1) := by decide +kernel
theorem dX11_watchers_68 : decode cX11_watchers 68 = .ok (.iload 4, 2) := by decide +kernel
theorem dX11_watchers_70 : decode cX11_watchers 70 = .ok (.invokevirtual 165, 3) := by decide +kernel
theorem dX11_watchers_73 : decode cX11_watchers 73 = .ok (.ireturn, 1) := by decide +kernel
theorem dX11_tenth_0 : decode cX11_tenth 0 = .ok (.aload_n 0, 1) := by decide +kernel
theorem dX11_tenth_1 : decode cX11_tenth 1 = .ok (.iload_n 1, 1) := by decide +kernel
theorem dX11_tenth_2 : decode cX11_tenth 2 = .ok (.iload_n 2, 1) := by decide +kernel
theorem dX11_tenth_3 : decode cX11_tenth 3 = .ok (.iconst 1, 1) := by decide +kernel
theorem dX11_tenth_4 : decode cX11_tenth 4 = .ok (.bipush 9, 2) := by decide +kernel
theorem dX11_tenth_6 : decode cX11_tenth 6 = .ok (.iconst 1, 1) := by decide +kernel
theorem dX11_tenth_7 : decode cX11_tenth 7 = .ok (.invokevirtual 333, 3) := by decide +kernel
theorem dX11_tenth_10 : decode cX11_tenth 10 = .ok (.istore_n 3, 1) := by decide +kernel
theorem dX11_tenth_11 : decode cX11_tenth 11 = .ok (.iload_n 3, 1) := by decide +kernel
theorem dX11_tenth_12 : decode cX11_tenth 12 = .ok (.ifCond .eq 9, 3) := by decide +kernel
theorem dX11_tenth_15 : decode cX11_tenth 15 = .ok (.aload_n 0, 1) := by decide +kernel
theorem dX11_tenth_16 : decode cX11_tenth 16 = .ok (.iload_n 3, 1) := by decide +kernel
theorem dX11_tenth_17 : decode cX11_tenth 17 = .ok (.invokevirtual 106, 3) := by decide +kernel
theorem dX11_tenth_20 : decode cX11_tenth 20 = .ok (.ireturn, 1) := by decide +kernel
theorem dX11_tenth_21 : decode cX11_tenth 21 = .ok (.iconst 0, 1) := by decide +kernel
theorem dX11_tenth_22 : decode cX11_tenth 22 = .ok (.istore 4, 2) := by decide +kernel
theorem dX11_tenth_24 : decode cX11_tenth 24 = .ok (.iconst 0, 1) := by decide +kernel
theorem dX11_tenth_25 : decode cX11_tenth 25 = .ok (.istore 5, 2) := by decide +kernel
theorem dX11_tenth_27 : decode cX11_tenth 27 = .ok (.iload 5, 2) := by decide +kernel
theorem dX11_tenth_29 : decode cX11_tenth 29 = .ok (.bipush 8, 2) := by decide +kernel
theorem dX11_tenth_31 : decode cX11_tenth 31 = .ok (.if_icmp .ge 79, 3) := by decide +kernel
theorem dX11_tenth_34 : decode cX11_tenth 34 = .ok (.aload_n 0, 1) := by decide +kernel
theorem dX11_tenth_35 : decode cX11_tenth 35 = .ok (.getfield 36, 3) := by decide +kernel
theorem dX11_tenth_38 : decode cX11_tenth 38 = .ok (.getfield 157, 3) := by decide +kernel
theorem dX11_tenth_41 : decode cX11_tenth 41 = .ok (.iload 5, 2) := by decide +kernel
theorem dX11_tenth_43 : decode cX11_tenth 43 = .ok (.invokevirtual 341, 3) := by decide +kernel
theorem dX11_tenth_46 : decode cX11_tenth 46 = .ok (.iload_n 2, 1) := by decide +kernel
theorem dX11_tenth_47 : decode cX11_tenth 47 = .ok (.if_icmp .ne 57, 3) := by decide +kernel
theorem dX11_tenth_50 : decode cX11_tenth 50 = .ok (.aload_n 0, 1) := by decide +kernel
theorem dX11_tenth_51 : decode cX11_tenth 51 = .ok (.getfield 36, 3) := by decide +kernel
theorem dX11_tenth_54 : decode cX11_tenth 54 = .ok (.getfield 157, 3) := by decide +kernel
theorem dX11_tenth_57 : decode cX11_tenth 57 = .ok (.iload 5, 2) := by decide +kernel
theorem dX11_tenth_59 : decode cX11_tenth 59 = .ok (.aload_n 0, 1) := by decide +kernel
theorem dX11_tenth_60 : decode cX11_tenth 60 = .ok (.getfield 36, 3) := by decide +kernel
theorem dX11_tenth_63 : decode cX11_tenth 63 = .ok (.getfield 230, 3) := by decide +kernel
theorem dX11_tenth_66 : decode cX11_tenth 66 = .ok (.aload_n 0, 1) := by decide +kernel
theorem dX11_tenth_67 : decode cX11_tenth 67 = .ok (.getfield 65, 3) := by decide +kernel
theorem dX11_tenth_70 : decode cX11_tenth 70 = .ok (.iconst 0, 1) := by decide +kernel
theorem dX11_tenth_71 : decode cX11_tenth 71 = .ok (.invokevirtual 344, 3) := by decide +kernel
theorem dX11_tenth_74 : decode cX11_tenth 74 = .ok (.iload 4, 2) := by decide +kernel
theorem dX11_tenth_76 : decode cX11_tenth 76 = .ok (.aload_n 0, 1) := by decide +kernel
theorem dX11_tenth_77 : decode cX11_tenth 77 = .ok (.getfield 11, 3) := by decide +kernel
theorem dX11_tenth_80 : decode cX11_tenth 80 = .ok (.iload_n 1, 1) := by decide +kernel
theorem dX11_tenth_81 : decode cX11_tenth 81 = .ok (.aaload, 1) := by decide +kernel
theorem dX11_tenth_82 : decode cX11_tenth 82 = .ok (.aload_n 0, 1) := by decide +kernel
theorem dX11_tenth_83 : decode cX11_tenth 83 = .ok (.getfield 65, 3) := by decide +kernel
theorem dX11_tenth_86 : decode cX11_tenth 86 = .ok (.iload_n 2, 1) := by decide +kernel
theorem dX11_tenth_87 : decode cX11_tenth 87 = .ok (.invokevirtual 348, 3) := by decide +kernel
theorem dX11_tenth_90 : decode cX11_tenth 90 = .ok (.ifCond .eq 10, 3) := by decide +kernel
theorem dX11_tenth_93 : decode cX11_tenth 93 = .ok (.iconst 1, 1) := by decide +kernel
theorem dX11_tenth_94 : decode cX11_tenth 94 = .ok (.iload 5, 2) := by decide +kernel
theorem dX11_tenth_96 : decode cX11_tenth 96 = .ok (.ishl, 1) := by decide +kernel
theorem dX11_tenth_97 : decode cX11_tenth 97 = .ok (.goto 4, 3) := by decide +kernel
theorem dX11_tenth_100 : decode cX11_tenth 100 = .ok (.iconst 0, 1) := by decide +kernel
theorem dX11_tenth_101 : decode cX11_tenth 101 = .ok (.ior, 1) := by decide +kernel
theorem dX11_tenth_102 : decode cX11_tenth 102 = .ok (.istore 4, 2) := by decide +kernel
theorem dX11_tenth_104 : decode cX11_tenth 104 = .ok (.iinc 5 1, 3) := by decide +kernel
theorem dX11_tenth_107 : decode cX11_tenth 107 = .ok (.goto (-80), 3) := by decide +kernel
theorem dX11_tenth_110 : decode cX11_tenth 110 = .ok (.aload_n 0, 1) := by decide +kernel
theorem dX11_tenth_111 : decode cX11_tenth 111 = .ok (.iload 4, 2) := by decide +kernel
theorem dX11_tenth_113 : decode cX11_tenth 113 = .ok (.invokevirtual 165, 3) := by decide +kernel
theorem dX11_tenth_116 : decode cX11_tenth 116 = .ok (.ireturn, 1) := by decide +kernel
theorem dX11_order_0 : decode cX11_order 0 = .ok (.aload_n 0, 1) := by decide +kernel
theorem dX11_order_1 : decode cX11_order 1 = .ok (.getfield 36, 3) := by decide +kernel
theorem dX11_order_4 : decode cX11_order 4 = .ok (.getfield 157, 3) := by decide +kernel
theorem dX11_order_7 : decode cX11_order 7 = .ok (.astore_n 2, 1) := by decide +kernel
theorem dX11_order_8 : decode cX11_order 8 = .ok (.aload_n 0, 1) := by decide +kernel
theorem dX11_order_9 : decode cX11_order 9 = .ok (.iload_n 1, 1) := by decide +kernel
theorem dX11_order_10 : decode cX11_order 10 = .ok (.aload_n 2, 1) := by decide +kernel
theorem dX11_order_11 : decode cX11_order 11 = .ok (.getfield 160, 3) := by decide +kernel
theorem dX11_order_14 : decode cX11_order 14 = .ok (.invokevirtual 237, 3) := by decide +kernel
theorem dX11_order_17 : decode cX11_order 17 = .ok (.istore_n 3, 1) := by decide +kernel
theorem dX11_order_18 : decode cX11_order 18 = .ok (.iload_n 3, 1) := by decide +kernel
theorem dX11_order_19 : decode cX11_order 19 = .ok (.ifCond .eq 9, 3) := by decide +kernel
theorem dX11_order_22 : decode cX11_order 22 = .ok (.aload_n 0, 1) := by decide +kernel
theorem dX11_order_23 : decode cX11_order 23 = .ok (.iload_n 3, 1) := by decide +kernel
theorem dX11_order_24 : decode cX11_order 24 = .ok (.invokevirtual 106, 3) := by decide +kernel
theorem dX11_order_27 : decode cX11_order 27 = .ok (.ireturn, 1) := by decide +kernel
theorem dX11_order_28 : decode cX11_order 28 = .ok (.aload_n 0, 1) := by decide +kernel
theorem dX11_order_29 : decode cX11_order 29 = .ok (.getfield 36, 3) := by decide +kernel
theorem dX11_order_32 : decode cX11_order 32 = .ok (.getfield 230, 3) := by decide +kernel
theorem dX11_order_35 : decode cX11_order 35 = .ok (.iconst 0, 1) := by decide +kernel
theorem dX11_order_36 : decode cX11_order 36 = .ok (.aload_n 0, 1) := by decide +kernel
theorem dX11_order_37 : decode cX11_order 37 = .ok (.getfield 54, 3) := by decide +kernel
theorem dX11_order_40 : decode cX11_order 40 = .ok (.getfield 323, 3) := by decide +kernel
theorem dX11_order_43 : decode cX11_order 43 = .ok (.iconst 0, 1) := by decide +kernel
theorem dX11_order_44 : decode cX11_order 44 = .ok (.aload_n 2, 1) := by decide +kernel
theorem dX11_order_45 : decode cX11_order 45 = .ok (.getfield 160, 3) := by decide +kernel
theorem dX11_order_48 : decode cX11_order 48 = .ok (.invokestatic 124, 3) := by decide +kernel
theorem dX11_order_51 : decode cX11_order 51 = .ok (.aload_n 0, 1) := by decide +kernel
theorem dX11_order_52 : decode cX11_order 52 = .ok (.getfield 11, 3) := by decide +kernel
theorem dX11_order_55 : decode cX11_order 55 = .ok (.iload_n 1, 1) := by decide +kernel
theorem dX11_order_56 : decode cX11_order 56 = .ok (.aaload, 1) := by decide +kernel
theorem dX11_order_57 : decode cX11_order 57 = .ok (.iconst 0, 1) := by decide +kernel
theorem dX11_order_58 : decode cX11_order 58 = .ok (.aload_n 2, 1) := by decide +kernel
theorem dX11_order_59 : decode cX11_order 59 = .ok (.getfield 160, 3) := by decide +kernel
theorem dX11_order_62 : decode cX11_order 62 = .ok (.aload_n 0, 1) := by decide +kernel
theorem dX11_order_63 : decode cX11_order 63 = .ok (.getfield 54, 3) := by decide +kernel
theorem dX11_order_66 : decode cX11_order 66 = .ok (.getfield 326, 3) := by decide +kernel
theorem dX11_order_69 : decode cX11_order 69 = .ok (.iconst 0, 1) := by decide +kernel
theorem dX11_order_70 : decode cX11_order 70 = .ok (.invokevirtual 240, 3) := by decide +kernel
theorem dX11_order_73 : decode cX11_order 73 = .ok (.aload_n 0, 1) := by decide +kernel
theorem dX11_order_74 : decode cX11_order 74 = .ok (.getfield 54, 3) := by decide +kernel
theorem dX11_order_77 : decode cX11_order 77 = .ok (.aload_n 2, 1) := by decide +kernel
theorem dX11_order_78 : decode cX11_order 78 = .ok (.invokevirtual 352, 3) := by decide +kernel
theorem dX11_order_81 : decode cX11_order 81 = .ok (.bipush 12, 2) := by decide +kernel
theorem dX11_order_83 : decode cX11_order 83 = .ok (.if_icmp .le 10, 3) := by decide +kernel
theorem dX11_order_86 : decode cX11_order 86 = .ok (.aload_n 0, 1) := by decide +kernel
theorem dX11_order_87 : decode cX11_order 87 = .ok (.bipush 7, 2) := by decide +kernel
theorem dX11_order_89 : decode cX11_order 89 = .ok (.invokevirtual 106, 3) := by decide +kernel
theorem dX11_order_92 : decode cX11_order 92 = .ok (.ireturn, 1) := by decide +kernel
theorem dX11_order_93 : decode cX11_order 93 = .ok (.aload_n 0, 1) := by decide +kernel
theorem dX11_order_94 : decode cX11_order 94 = .ok (.getfield 54, 3) := by decide +kernel
theorem dX11_order_97 : decode cX11_order 97 = .ok (.aload_n 2, 1) := by decide +kernel
theorem dX11_order_98 : decode cX11_order 98 = .ok (.invokevirtual 355, 3) := by decide +kernel
theorem dX11_order_101 : decode cX11_order 101 = .ok (.ifCond .ne 10, 3) := by decide +kernel
theorem dX11_order_104 : decode cX11_order 104 = .ok (.aload_n 0, 1) := by decide +kernel
theorem dX11_order_105 : decode cX11_order 105 = .ok (.bipush 9, 2) := by decide +kernel
theorem dX11_order_107 : decode cX11_order 107 = .ok (.invokevirtual 106, 3) := by decide +kernel
theorem dX11_order_110 : decode cX11_order 110 = .ok (.ireturn, 1) := by decide +kernel
theorem dX11_order_111 : decode cX11_order 111 = .ok (.aload_n 0, 1) := by decide +kernel
theorem dX11_order_112 : decode cX11_order 112 = .ok (.getfield 54, 3) := by decide +kernel
theorem dX11_order_115 : decode cX11_order 115 = .ok (.aload_n 2, 1) := by decide +kernel
theorem dX11_order_116 : decode cX11_order 116 = .ok (.invokevirtual 358, 3) := by decide +kernel
theorem dX11_order_119 : decode cX11_order 119 = .ok (.aload_n 0, 1) := by decide +kernel
theorem dX11_order_120 : decode cX11_order 120 = .ok (.aload_n 0, 1) := by decide +kernel
theorem dX11_order_121 : decode cX11_order 121 = .ok (.getfield 54, 3) := by decide +kernel
theorem dX11_order_124 : decode cX11_order 124 = .ok (.getfield 361, 3) := by decide +kernel
theorem dX11_order_127 : decode cX11_order 127 = .ok (.invokevirtual 165, 3) := by decide +kernel
theorem dX11_order_130 : decode cX11_order 130 = .ok (.ireturn, 1) := by decide +kernel
theorem dX11_orderAt_0 : decode cX11_orderAt 0 = .ok (.iload_n 1, 1) := by decide +kernel
theorem dX11_orderAt_1 : decode cX11_orderAt 1 = .ok (.ifCond .lt 14, 3) := by decide +kernel
theorem dX11_orderAt_4 : decode cX11_orderAt 4 = .ok (.iload_n 1, 1) := by decide +kernel
theorem dX11_orderAt_5 : decode cX11_orderAt 5 = .ok (.aload_n 0, 1) := by decide +kernel
theorem dX11_orderAt_6 : decode cX11_orderAt 6 = .ok (.getfield 54, 3) := by decide +kernel
theorem dX11_orderAt_9 : decode cX11_orderAt 9 = .ok (.getfield 361, 3) := by decide +kernel
theorem dX11_orderAt_12 : decode cX11_orderAt 12 = .ok (.if_icmp .lt 10, 3) := by decide +kernel
theorem dX11_orderAt_15 : decode cX11_orderAt 15 = .ok (.aload_n 0, 1) := by decide +kernel
theorem dX11_orderAt_16 : decode cX11_orderAt 16 = .ok (.bipush 8, 2) := by decide +kernel
theorem dX11_orderAt_18 : decode cX11_orderAt 18 = .ok (.invokevirtual 106, 3) := by decide +kernel
theorem dX11_orderAt_21 : decode cX11_orderAt 21 = .ok (.ireturn, 1) := by decide +kernel
theorem dX11_orderAt_22 : decode cX11_orderAt 22 = .ok (.aload_n 0, 1) := by decide +kernel
theorem dX11_orderAt_23 : decode cX11_orderAt 23 = .ok (.aload_n 0, 1) := by decide +kernel
theorem dX11_orderAt_24 : decode cX11_orderAt 24 = .ok (.getfield 54, 3) := by decide +kernel
theorem dX11_orderAt_27 : decode cX11_orderAt 27 = .ok (.getfield 364, 3) := by decide +kernel
theorem dX11_orderAt_30 : decode cX11_orderAt 30 = .ok (.iload_n 1, 1) := by decide +kernel
theorem dX11_orderAt_31 : decode cX11_orderAt 31 = .ok (.iaload, 1) := by decide +kernel
theorem dX11_orderAt_32 : decode cX11_orderAt 32 = .ok (.invokevirtual 165, 3) := by decide +kernel
theorem dX11_orderAt_35 : decode cX11_orderAt 35 = .ok (.ireturn, 1) := by decide +kernel
theorem dX11_like_0 : decode cX11_like 0 = .ok (.aload_n 0, 1) := by decide +kernel
theorem dX11_like_1 : decode cX11_like 1 = .ok (.iload_n 1, 1) := by decide +kernel
theorem dX11_like_2 : decode cX11_like 2 = .ok (.iload_n 2, 1) := by decide +kernel
theorem dX11_like_3 : decode cX11_like 3 = .ok (.iconst 1, 1) := by decide +kernel
theorem dX11_like_4 : decode cX11_like 4 = .ok (.bipush 9, 2) := by decide +kernel
theorem dX11_like_6 : decode cX11_like 6 = .ok (.iconst 1, 1) := by decide +kernel
theorem dX11_like_7 : decode cX11_like 7 = .ok (.invokevirtual 333, 3) := by decide +kernel
theorem dX11_like_10 : decode cX11_like 10 = .ok (.istore_n 3, 1) := by decide +kernel
theorem dX11_like_11 : decode cX11_like 11 = .ok (.iload_n 3, 1) := by decide +kernel
theorem dX11_like_12 : decode cX11_like 12 = .ok (.ifCond .eq 9, 3) := by decide +kernel
theorem dX11_like_15 : decode cX11_like 15 = .ok (.aload_n 0, 1) := by decide +kernel
theorem dX11_like_16 : decode cX11_like 16 = .ok (.iload_n 3, 1) := by decide +kernel
theorem dX11_like_17 : decode cX11_like 17 = .ok (.invokevirtual 106, 3) := by decide +kernel
theorem dX11_like_20 : decode cX11_like 20 = .ok (.ireturn, 1) := by decide +kernel
theorem dX11_like_21 : decode cX11_like 21 = .ok (.aload_n 0, 1) := by decide +kernel
theorem dX11_like_22 : decode cX11_like 22 = .ok (.getfield 36, 3) := by decide +kernel
theorem dX11_like_25 : decode cX11_like 25 = .ok (.getfield 157, 3) := by decide +kernel
theorem dX11_like_28 : decode cX11_like 28 = .ok (.astore 4, 2) := by decide +kernel
theorem dX11_like_30 : decode cX11_like 30 = .ok (.aload 4, 2) := by decide +kernel
theorem dX11_like_32 : decode cX11_like 32 = .ok (.getfield 194, 3) := by decide +kernel
theorem dX11_like_35 : decode cX11_like 35 = .ok (.ifCond .ne 10, 3) := by decide +kernel
theorem dX11_like_38 : decode cX11_like 38 = .ok (.aload_n 0, 1) := by decide +kernel
theorem dX11_like_39 : decode cX11_like 39 = .ok (.bipush 8, 2) := by decide +kernel
theorem dX11_like_41 : decode cX11_like 41 = .ok (.invokevirtual 106, 3) := by decide +kernel
theorem dX11_like_44 : decode cX11_like 44 = .ok (.ireturn, 1) := by decide +kernel
theorem dX11_like_45 : decode cX11_like 45 = .ok (.iconst 0, 1) := by decide +kernel
theorem dX11_like_46 : decode cX11_like 46 = .ok (.istore 5, 2) := by decide +kernel
theorem dX11_like_48 : decode cX11_like 48 = .ok (.iload 5, 2) := by decide +kernel
theorem dX11_like_50 : decode cX11_like 50 = .ok (.aload 4, 2) := by decide +kernel
theorem dX11_like_52 : decode cX11_like 52 = .ok (.getfield 194, 3) := by decide +kernel
theorem dX11_like_55 : decode cX11_like 55 = .ok (.if_icmp .ge 47, 3) := by decide +kernel
theorem dX11_like_58 : decode cX11_like 58 = .ok (.aload 4, 2) := by decide +kernel
theorem dX11_like_60 : decode cX11_like 60 = .ok (.iload 5, 2) := by decide +kernel
theorem dX11_like_62 : decode cX11_like 62 = .ok (.invokevirtual 215, 3) := by decide +kernel
theorem dX11_like_65 : decode cX11_like 65 = .ok (.iload_n 2, 1) := by decide +kernel
theorem dX11_like_66 : decode cX11_like 66 = .ok (.if_icmp .eq 10, 3) := by decide +kernel
theorem dX11_like_69 : decode cX11_like 69 = .ok (.aload_n 0, 1) := by decide +kernel
theorem dX11_like_70 : decode cX11_like 70 = .ok (.bipush 9, 2) := by decide +kernel
theorem dX11_like_72 : decode cX11_like 72 = .ok (.invokevirtual 106, 3) := by decide +kernel
theorem dX11_like_75 : decode cX11_like 75 = .ok (.ireturn, 1) := by decide +kernel
theorem dX11_like_76 : decode cX11_like 76 = .ok (.aload_n 0, 1) := by decide +kernel
theorem dX11_like_77 : decode cX11_like 77 = .ok (.getfield 11, 3) := by decide +kernel
theorem dX11_like_80 : decode cX11_like 80 = .ok (.iload_n 1, 1) := by decide +kernel
theorem dX11_like_81 : decode cX11_like 81 = .ok (.aaload, 1) := by decide +kernel
theorem dX11_like_82 : decode cX11_like 82 = .ok (.iconst 0, 1) := by decide +kernel
theorem dX11_like_83 : decode cX11_like 83 = .ok (.iload_n 2, 1) := by decide +kernel
theorem dX11_like_84 : decode cX11_like 84 = .ok (.aload_n 0, 1) := by decide +kernel
theorem dX11_like_85 : decode cX11_like 85 = .ok (.getfield 65, 3) := by decide +kernel
theorem dX11_like_88 : decode cX11_like 88 = .ok (.iload 5, 2) := by decide +kernel
theorem dX11_like_90 : decode cX11_like 90 = .ok (.bipush 9, 2) := by decide +kernel
theorem dX11_like_92 : decode cX11_like 92 = .ok (.imul, 1) := by decide +kernel
theorem dX11_like_93 : decode cX11_like 93 = .ok (.invokevirtual 240, 3) := by decide +kernel
theorem dX11_like_96 : decode cX11_like 96 = .ok (.iinc 5 1, 3) := by decide +kernel
theorem dX11_like_99 : decode cX11_like 99 = .ok (.goto (-51), 3) := by decide +kernel
theorem dX11_like_102 : decode cX11_like 102 = .ok (.aload_n 0, 1) := by decide +kernel
theorem dX11_like_103 : decode cX11_like 103 = .ok (.getfield 47, 3) := by decide +kernel
theorem dX11_like_106 : decode cX11_like 106 = .ok (.aload 4, 2) := by decide +kernel
theorem dX11_like_108 : decode cX11_like 108 = .ok (.aload_n 0, 1) := by decide +kernel
theorem dX11_like_109 : decode cX11_like 109 = .ok (.getfield 65, 3) := by decide +kernel
theorem dX11_like_112 : decode cX11_like 112 = .ok (.invokevirtual 367, 3) := by decide +kernel
theorem dX11_like_115 : decode cX11_like 115 = .ok (.aload_n 0, 1) := by decide +kernel
theorem dX11_like_116 : decode cX11_like 116 = .ok (.aload_n 0, 1) := by decide +kernel
theorem dX11_like_117 : decode cX11_like 117 = .ok (.getfield 47, 3) := by decide +kernel
theorem dX11_like_120 : decode cX11_like 120 = .ok (.aload 4, 2) := by decide +kernel
theorem dX11_like_122 : decode cX11_like 122 = .ok (.invokevirtual 315, 3) := by decide +kernel
theorem dX11_like_125 : decode cX11_like 125 = .ok (.ifCond .eq 7, 3) := by decide +kernel
theorem dX11_like_128 : decode cX11_like 128 = .ok (.iconst 1, 1) := by decide +kernel
theorem dX11_like_129 : decode cX11_like 129 = .ok (.goto 4, 3) := by decide +kernel
theorem dX11_like_132 : decode cX11_like 132 = .ok (.iconst 0, 1) := by decide +kernel
theorem dX11_like_133 : decode cX11_like 133 = .ok (.invokevirtual 165, 3) := by decide +kernel
theorem dX11_like_136 : decode cX11_like 136 = .ok (.ireturn, 1) := by decide +kernel
theorem dX11_highest_0 : decode cX11_highest 0 = .ok (.aload_n 0, 1) := by decide +kernel
theorem dX11_highest_1 : decode cX11_highest 1 = .ok (.getfield 36, 3) := by decide +kernel
theorem dX11_highest_4 : decode cX11_highest 4 = .ok (.getfield 157, 3) := by decide +kernel
theorem dX11_highest_7 : decode cX11_highest 7 = .ok (.astore_n 1, 1) := by decide +kernel
theorem dX11_highest_8 : decode cX11_highest 8 = .ok (.aload_n 1, 1) := by decide +kernel
theorem dX11_highest_9 : decode cX11_highest 9 = .ok (.getfield 194, 3) := by decide +kernel
theorem dX11_highest_12 : decode cX11_highest 12 = .ok (.ifCond .ne 10, 3) := by decide +kernel
theorem dX11_highest_15 : decode cX11_highest 15 = .ok (.aload_n 0, 1) := by decide +kernel
theorem dX11_highest_16 : decode cX11_highest 16 = .ok (.bipush 8, 2) := by decide +kernel
theorem dX11_highest_18 : decode cX11_highest 18 = .ok (.invokevirtual 106, 3) := by decide +kernel
theorem dX11_highest_21 : decode cX11_highest 21 = .ok (.ireturn, 1) := by decide +kernel
theorem dX11_highest_22 : decode cX11_highest 22 = .ok (.aload_n 1, 1) := by decide +kernel
theorem dX11_highest_23 : decode cX11_highest 23 = .ok (.aload_n 1, 1) := by decide +kernel
theorem dX11_highest_24 : decode cX11_highest 24 = .ok (.getfield 200, 3) := by decide +kernel
theorem dX11_highest_27 : decode cX11_highest 27 = .ok (.invokevirtual 370, 3) := by decide +kernel
theorem dX11_highest_30 : decode cX11_highest 30 = .ok (.istore_n 2, 1) := by decide +kernel
theorem dX11_highest_31 : decode cX11_highest 31 = .ok (.aload_n 0, 1) := by decide +kernel
theorem dX11_highest_32 : decode cX11_highest 32 = .ok (.getfield 65, 3) := by decide +kernel
theorem dX11_highest_35 : decode cX11_highest 35 = .ok (.iload_n 2, 1) := by decide +kernel
theorem dX11_highest_36 : decode cX11_highest 36 = .ok (.invokestatic 373, 3) := by decide +kernel
theorem dX11_highest_39 : decode cX11_highest 39 = .ok (.aload_n 0, 1) := by decide +kernel
theorem dX11_highest_40 : decode cX11_highest 40 = .ok (.getfield 47, 3) := by decide +kernel
theorem dX11_highest_43 : decode cX11_highest 43 = .ok (.aload_n 1, 1) := by decide +kernel
theorem dX11_highest_44 : decode cX11_highest 44 = .ok (.aload_n 0, 1) := by decide +kernel
theorem dX11_highest_45 : decode cX11_highest 45 = .ok (.getfield 65, 3) := by decide +kernel
theorem dX11_highest_48 : decode cX11_highest 48 = .ok (.invokevirtual 367, 3) := by decide +kernel
theorem dX11_highest_51 : decode cX11_highest 51 = .ok (.aload_n 0, 1) := by decide +kernel
theorem dX11_highest_52 : decode cX11_highest 52 = .ok (.getfield 47, 3) := by decide +kernel
theorem dX11_highest_55 : decode cX11_highest 55 = .ok (.aload_n 1, 1) := by decide +kernel
theorem dX11_highest_56 : decode cX11_highest 56 = .ok (.invokevirtual 315, 3) := by decide +kernel
theorem dX11_highest_59 : decode cX11_highest 59 = .ok (.ifCond .eq 11, 3) := by decide +kernel
theorem dX11_highest_62 : decode cX11_highest 62 = .ok (.aload_n 0, 1) := by decide +kernel
theorem dX11_highest_63 : decode cX11_highest 63 = .ok (.iload_n 2, 1) := by decide +kernel
theorem dX11_highest_64 : decode cX11_highest 64 = .ok (.invokevirtual 165, 3) := by decide +kernel
theorem dX11_highest_67 : decode cX11_highest 67 = .ok (.goto 9, 3) := by decide +kernel
theorem dX11_highest_70 : decode cX11_highest 70 = .ok (.aload_n 0, 1) := by decide +kernel
theorem dX11_highest_71 : decode cX11_highest 71 = .ok (.bipush 8, 2) := by decide +kernel
theorem dX11_highest_73 : decode cX11_highest 73 = .ok (.invokevirtual 106, 3) := by decide +kernel
theorem dX11_highest_76 : decode cX11_highest 76 = .ok (.ireturn, 1) := by decide +kernel
theorem dX11_built_0 : decode cX11_built 0 = .ok (.iload_n 1, 1) := by decide +kernel
theorem dX11_built_1 : decode cX11_built 1 = .ok (.invokestatic 379, 3) := by decide +kernel
theorem dX11_built_4 : decode cX11_built 4 = .ok (.ifCond .ne 9, 3) := by decide +kernel
theorem dX11_built_7 : decode cX11_built 7 = .ok (.aload_n 0, 1) := by decide +kernel
theorem dX11_built_8 : decode cX11_built 8 = .ok (.iconst 5, 1) := by decide +kernel
theorem dX11_built_9 : decode cX11_built 9 = .ok (.invokevirtual 106, 3) := by decide +kernel
theorem dX11_built_12 : decode cX11_built 12 = .ok (.ireturn, 1) := by decide +kernel
theorem dX11_built_13 : decode cX11_built 13 = .ok (.aload_n 0, 1) := by decide +kernel
theorem dX11_built_14 : decode cX11_built 14 = .ok (.getfield 36, 3) := by decide +kernel
theorem dX11_built_17 : decode cX11_built 17 = .ok (.getfield 173, 3) := by decide +kernel
theorem dX11_built_20 : decode cX11_built 20 = .ok (.getfield 382, 3) := by decide +kernel
theorem dX11_built_23 : decode cX11_built 23 = .ok (.ifCond .ne 10, 3) := by decide +kernel
theorem dX11_built_26 : decode cX11_built 26 = .ok (.aload_n 0, 1) := by decide +kernel
theorem dX11_built_27 : decode cX11_built 27 = .ok (.bipush 8, 2) := by decide +kernel
theorem dX11_built_29 : decode cX11_built 29 = .ok (.invokevirtual 106, 3) := by decide +kernel
theorem dX11_built_32 : decode cX11_built 32 = .ok (.ireturn, 1) := by decide +kernel
theorem dX11_built_33 : decode cX11_built 33 = .ok (.aload_n 0, 1) := by decide +kernel
theorem dX11_built_34 : decode cX11_built 34 = .ok (.getfield 61, 3) := by decide +kernel
theorem dX11_built_37 : decode cX11_built 37 = .ok (.aload_n 0, 1) := by decide +kernel
theorem dX11_built_38 : decode cX11_built 38 = .ok (.getfield 36, 3) := by decide +kernel
theorem dX11_built_41 : decode cX11_built 41 = .ok (.getfield 173, 3) := by decide +kernel
theorem dX11_built_44 : decode cX11_built 44 = .ok (.aload_n 0, 1) := by decide +kernel
theorem dX11_built_45 : decode cX11_built 45 = .ok (.getfield 36, 3) := by decide +kernel
theorem dX11_built_48 : decode cX11_built 48 = .ok (.getfield 157, 3) := by decide +kernel
theorem dX11_built_51 : decode cX11_built 51 = .ok (.aload_n 0, 1) := by decide +kernel
theorem dX11_built_52 : decode cX11_built 52 = .ok (.getfield 36, 3) := by decide +kernel
theorem dX11_built_55 : decode cX11_built 55 = .ok (.getfield 230, 3) := by decide +kernel
theorem dX11_built_58 : decode cX11_built 58 = .ok (.iload_n 1, 1) := by decide +kernel
theorem dX11_built_59 : decode cX11_built 59 = .ok (.invokevirtual 383, 3) := by decide +kernel
theorem dX11_built_62 : decode cX11_built 62 = .ok (.aload_n 0, 1) := by decide +kernel
theorem dX11_built_63 : decode cX11_built 63 = .ok (.getfield 72, 3) := by decide +kernel
theorem dX11_built_66 : decode cX11_built 66 = .ok (.iconst 0, 1) := by decide +kernel
theorem dX11_built_67 : decode cX11_built 67 = .ok (.aload_n 0, 1) := by decide +kernel
theorem dX11_built_68 : decode cX11_built 68 = .ok (.getfield 61, 3) := by decide +kernel
theorem dX11_built_71 : decode cX11_built 71 = .ok (.getfield 387, 3) := by decide +kernel
theorem dX11_built_74 : decode cX11_built 74 = .ok (.iastore, 1) := by decide +kernel
theorem dX11_built_75 : decode cX11_built 75 = .ok (.aload_n 0, 1) := by decide +kernel
theorem dX11_built_76 : decode cX11_built 76 = .ok (.getfield 72, 3) := by decide +kernel
theorem dX11_built_79 : decode cX11_built 79 = .ok (.iconst 1, 1) := by decide +kernel
theorem dX11_built_80 : decode cX11_built 80 = .ok (.aload_n 0, 1) := by decide +kernel
theorem dX11_built_81 : decode cX11_built 81 = .ok (.getfield 61, 3) := by decide +kernel
theorem dX11_built_84 : decode cX11_built 84 = .ok (.getfield 390, 3) := by decide +kernel
theorem dX11_built_87 : decode cX11_built 87 = .ok (.iastore, 1) := by decide +kernel
theorem dX11_built_88 : decode cX11_built 88 = .ok (.aload_n 0, 1) := by decide +kernel
theorem dX11_built_89 : decode cX11_built 89 = .ok (.getfield 72, 3) := by decide +kernel
theorem dX11_built_92 : decode cX11_built 92 = .ok (.iconst 2, 1) := by decide +kernel
theorem dX11_built_93 : decode cX11_built 93 = .ok (.aload_n 0, 1) := by decide +kernel
theorem dX11_built_94 : decode cX11_built 94 = .ok (.getfield 61, 3) := by decide +kernel
theorem dX11_built_97 : decode cX11_built 97 = .ok (.getfield 393, 3) := by decide +kernel
theorem dX11_built_100 : decode cX11_built 100 = .ok (.iastore, 1) := by decide +kernel
theorem dX11_built_101 : decode cX11_built 101 = .ok (.aload_n 0, 1) := by decide +kernel
theorem dX11_built_102 : decode cX11_built 102 = .ok (.aload_n 0, 1) := by decide +kernel
theorem dX11_built_103 : decode cX11_built 103 = .ok (.getfield 61, 3) := by decide +kernel
theorem dX11_built_106 : decode cX11_built 106 = .ok (.getfield 396, 3) := by decide +kernel
theorem dX11_built_109 : decode cX11_built 109 = .ok (.invokevirtual 165, 3) := by decide +kernel
theorem dX11_built_112 : decode cX11_built 112 = .ok (.ireturn, 1) := by decide +kernel
theorem dX11_building_0 : decode cX11_building 0 = .ok (.iload_n 1, 1) := by decide +kernel
theorem dX11_building_1 : decode cX11_building 1 = .ok (.ifCond .lt 8, 3) := by decide +kernel
theorem dX11_building_4 : decode cX11_building 4 = .ok (.iload_n 1, 1) := by decide +kernel
theorem dX11_building_5 : decode cX11_building 5 = .ok (.iconst 2, 1) := by decide +kernel
theorem dX11_building_6 : decode cX11_building 6 = .ok (.if_icmp .le 9, 3) := by decide +kernel
theorem dX11_building_9 : decode cX11_building 9 = .ok (.aload_n 0, 1) := by decide +kernel
theorem dX11_building_10 : decode cX11_building 10 = .ok (.iconst 5, 1) := by decide +kernel
theorem dX11_building_11 : decode cX11_building 11 = .ok (.invokevirtual 106, 3) := by decide +kernel
theorem dX11_building_14 : decode cX11_building 14 = .ok (.ireturn, 1) := by decide +kernel
theorem dX11_building_15 : decode cX11_building 15 = .ok (.aload_n 0, 1) := by decide +kernel
theorem dX11_building_16 : decode cX11_building 16 = .ok (.getfield 72, 3) := by decide +kernel
theorem dX11_building_19 : decode cX11_building 19 = .ok (.iload_n 1, 1) := by decide +kernel
theorem dX11_building_20 : decode cX11_building 20 = .ok (.iaload, 1) := by decide +kernel
theorem dX11_building_21 : decode cX11_building 21 = .ok (.istore_n 2, 1) := by decide +kernel
theorem dX11_building_22 : decode cX11_building 22 = .ok (.iload_n 2, 1) := by decide +kernel
theorem dX11_building_23 : decode cX11_building 23 = .ok (.iconst (-1), 1) := by decide +kernel
theorem dX11_building_24 : decode cX11_building 24 = .ok (.if_icmp .ne 12, 3) := by decide +kernel
theorem dX11_building_27 : decode cX11_building 27 = .ok (.aload_n 0, 1) := by decide +kernel
theorem dX11_building_28 : decode cX11_building 28 = .ok (.bipush 8, 2) := by decide +kernel
theorem dX11_building_30 : decode cX11_building 30 = .ok (.invokevirtual 106, 3) := by decide +kernel
theorem dX11_building_33 : decode cX11_building 33 = .ok (.goto 8, 3) := by decide +kernel
theorem dX11_building_36 : decode cX11_building 36 = .ok (.aload_n 0, 1) := by decide +kernel
theorem dX11_building_37 : decode cX11_building 37 = .ok (.iload_n 2, 1) := by decide +kernel
theorem dX11_building_38 : decode cX11_building 38 = .ok (.invokevirtual 165, 3) := by decide +kernel
theorem dX11_building_41 : decode cX11_building 41 = .ok (.ireturn, 1) := by decide +kernel
theorem dX11_tally_0 : decode cX11_tally 0 = .ok (.iload_n 1, 1) := by decide +kernel
theorem dX11_tally_1 : decode cX11_tally 1 = .ok (.invokestatic 379, 3) := by decide +kernel
theorem dX11_tally_4 : decode cX11_tally 4 = .ok (.ifCond .eq 25, 3) := by decide +kernel
theorem dX11_tally_7 : decode cX11_tally 7 = .ok (.iload_n 2, 1) := by decide +kernel
theorem dX11_tally_8 : decode cX11_tally 8 = .ok (.iconst 1, 1) := by decide +kernel
theorem dX11_tally_9 : decode cX11_tally 9 = .ok (.if_icmp .lt 20, 3) := by decide +kernel
theorem dX11_tally_12 : decode cX11_tally 12 = .ok (.iload_n 2, 1) := by decide +kernel
theorem dX11_tally_13 : decode cX11_tally 13 = .ok (.bipush 30, 2) := by decide +kernel
theorem dX11_tally_15 : decode cX11_tally 15 = .ok (.if_icmp .gt 14, 3) := by decide +kernel
theorem dX11_tally_18 : decode cX11_tally 18 = .ok (.iload_n 1, 1) := by decide +kernel
theorem dX11_tally_19 : decode cX11_tally 19 = .ok (.iload_n 2, 1) := by decide +kernel
theorem dX11_tally_20 : decode cX11_tally 20 = .ok (.iadd, 1) := by decide +kernel
theorem dX11_tally_21 : decode cX11_tally 21 = .ok (.iconst 1, 1) := by decide +kernel
theorem dX11_tally_22 : decode cX11_tally 22 = .ok (.isub, 1) := by decide +kernel
theorem dX11_tally_23 : decode cX11_tally 23 = .ok (.invokestatic 379, 3) := by decide +kernel
theorem dX11_tally_26 : decode cX11_tally 26 = .ok (.ifCond .ne 9, 3) := by decide +kernel
theorem dX11_tally_29 : decode cX11_tally 29 = .ok (.aload_n 0, 1) := by decide +kernel
theorem dX11_tally_30 : decode cX11_tally 30 = .ok (.iconst 5, 1) := by decide +kernel
theorem dX11_tally_31 : decode cX11_tally 31 = .ok (.invokevirtual 106, 3) := by decide +kernel
theorem dX11_tally_34 : decode cX11_tally 34 = .ok (.ireturn, 1) := by decide +kernel
theorem dX11_tally_35 : decode cX11_tally 35 = .ok (.aload_n 0, 1) := by decide +kernel
theorem dX11_tally_36 : decode cX11_tally 36 = .ok (.getfield 36, 3) := by decide +kernel
theorem dX11_tally_39 : decode cX11_tally 39 = .ok (.getfield 173, 3) := by decide +kernel
theorem dX11_tally_42 : decode cX11_tally 42 = .ok (.getfield 382, 3) := by decide +kernel
theorem dX11_tally_45 : decode cX11_tally 45 = .ok (.ifCond .ne 10, 3) := by decide +kernel
theorem dX11_tally_48 : decode cX11_tally 48 = .ok (.aload_n 0, 1) := by decide +kernel
theorem dX11_tally_49 : decode cX11_tally 49 = .ok (.bipush 8, 2) := by decide +kernel
theorem dX11_tally_51 : decode cX11_tally 51 = .ok (.invokevirtual 106, 3) := by decide +kernel
theorem dX11_tally_54 : decode cX11_tally 54 = .ok (.ireturn, 1) := by decide +kernel
theorem dX11_tally_55 : decode cX11_tally 55 = .ok (.iconst 0, 1) := by decide +kernel
theorem dX11_tally_56 : decode cX11_tally 56 = .ok (.istore_n 3, 1) := by decide +kernel
theorem dX11_tally_57 : decode cX11_tally 57 = .ok (.iconst 0, 1) := by decide +kernel
theorem dX11_tally_58 : decode cX11_tally 58 = .ok (.istore 4, 2) := by decide +kernel
theorem dX11_tally_60 : decode cX11_tally 60 = .ok (.iload 4, 2) := by decide +kernel
theorem dX11_tally_62 : decode cX11_tally 62 = .ok (.iload_n 2, 1) := by decide +kernel
theorem dX11_tally_63 : decode cX11_tally 63 = .ok (.if_icmp .ge 82, 3) := by decide +kernel
theorem dX11_tally_66 : decode cX11_tally 66 = .ok (.aload_n 0, 1) := by decide +kernel
theorem dX11_tally_67 : decode cX11_tally 67 = .ok (.getfield 36, 3) := by decide +kernel
theorem dX11_tally_70 : decode cX11_tally 70 = .ok (.getfield 230, 3) := by decide +kernel
theorem dX11_tally_73 : decode cX11_tally 73 = .ok (.iconst 0, 1) := by decide +kernel
theorem dX11_tally_74 : decode cX11_tally 74 = .ok (.aload_n 0, 1) := by decide +kernel
theorem dX11_tally_75 : decode cX11_tally 75 = .ok (.getfield 69, 3) := by decide +kernel
theorem dX11_tally_78 : decode cX11_tally 78 = .ok (.iconst 0, 1) := by decide +kernel
theorem dX11_tally_79 : decode cX11_tally 79 = .ok (.bipush 25, 2) := by decide +kernel
theorem dX11_tally_81 : decode cX11_tally 81 = .ok (.invokestatic 124, 3) := by decide +kernel
theorem dX11_tally_84 : decode cX11_tally 84 = .ok (.aload_n 0, 1) := by decide +kernel
theorem dX11_tally_85 : decode cX11_tally 85 = .ok (.getfield 61, 3) := by decide +kernel
theorem dX11_tally_88 : decode cX11_tally 88 = .ok (.aload_n 0, 1) := by decide +kernel
theorem dX11_tally_89 : decode cX11_tally 89 = .ok (.getfield 36, 3) := by decide +kernel
theorem dX11_tally_92 : decode cX11_tally 92 = .ok (.getfield 173, 3) := by decide +kernel
theorem dX11_tally_95 : decode cX11_tally 95 = .ok (.aload_n 0, 1) := by decide +kernel
theorem dX11_tally_96 : decode cX11_tally 96 = .ok (.getfield 36, 3) := by decide +kernel
theorem dX11_tally_99 : decode cX11_tally 99 = .ok (.getfield 157, 3) := by decide +kernel
theorem dX11_tally_102 : decode cX11_tally 102 = .ok (.aload_n 0, 1) := by decide +kernel
theorem dX11_tally_103 : decode cX11_tally 103 = .ok (.getfield 69, 3) := by decide +kernel
theorem dX11_tally_106 : decode cX11_tally 106 = .ok (.iload_n 1, 1) := by decide +kernel
theorem dX11_tally_107 : decode cX11_tally 107 = .ok (.iload 4, 2) := by decide +kernel
theorem dX11_tally_109 : decode cX11_tally 109 = .ok (.iadd, 1) := by decide +kernel
theorem dX11_tally_110 : decode cX11_tally 110 = .ok (.invokevirtual 383, 3) := by decide +kernel
theorem dX11_tally_113 : decode cX11_tally 113 = .ok (.iload_n 3, 1) := by decide +kernel
theorem dX11_tally_114 : decode cX11_tally 114 = .ok (.aload_n 0, 1) := by decide +kernel
theorem dX11_tally_115 : decode cX11_tally 115 = .ok (.getfield 36, 3) := by decide +kernel
theorem dX11_tally_118 : decode cX11_tally 118 = .ok (.getfield 157, 3) := by decide +kernel
theorem dX11_tally_121 : decode cX11_tally 121 = .ok (.aload_n 0, 1) := by decide +kernel
theorem dX11_tally_122 : decode cX11_tally 122 = .ok (.getfield 69, 3) := by decide +kernel
theorem dX11_tally_125 : decode cX11_tally 125 = .ok (.invokevirtual 248, 3) := by decide +kernel
theorem dX11_tally_128 : decode cX11_tally 128 = .ok (.iconst (-1), 1) := by decide +kernel
theorem dX11_tally_129 : decode cX11_tally 129 = .ok (.if_icmp .ne 7, 3) := by decide +kernel
theorem dX11_tally_132 : decode cX11_tally 132 = .ok (.iconst 1, 1) := by decide +kernel
theorem dX11_tally_133 : decode cX11_tally 133 = .ok (.goto 4, 3) := by decide +kernel
theorem dX11_tally_136 : decode cX11_tally 136 = .ok (.iconst 0, 1) := by decide +kernel
theorem dX11_tally_137 : decode cX11_tally 137 = .ok (.iadd, 1) := by decide +kernel
theorem dX11_tally_138 : decode cX11_tally 138 = .ok (.istore_n 3, 1) := by decide +kernel
theorem dX11_tally_139 : decode cX11_tally 139 = .ok (.iinc 4 1, 3) := by decide +kernel
theorem dX11_tally_142 : decode cX11_tally 142 = .ok (.goto (-82), 3) := by decide +kernel
theorem dX11_tally_145 : decode cX11_tally 145 = .ok (.aload_n 0, 1) := by decide +kernel
theorem dX11_tally_146 : decode cX11_tally 146 = .ok (.iload_n 3, 1) := by decide +kernel
theorem dX11_tally_147 : decode cX11_tally 147 = .ok (.invokevirtual 165, 3) := by decide +kernel
theorem dX11_tally_150 : decode cX11_tally 150 = .ok (.ireturn, 1) := by decide +kernel
theorem dX11_mark_0 : decode cX11_mark 0 = .ok (.aload_n 0, 1) := by decide +kernel
theorem dX11_mark_1 : decode cX11_mark 1 = .ok (.getfield 397, 3) := by decide +kernel
theorem dX11_mark_4 : decode cX11_mark 4 = .ok (.iconst 3, 1) := by decide +kernel
theorem dX11_mark_5 : decode cX11_mark 5 = .ok (.if_icmp .lt 10, 3) := by decide +kernel
theorem dX11_mark_8 : decode cX11_mark 8 = .ok (.aload_n 0, 1) := by decide +kernel
theorem dX11_mark_9 : decode cX11_mark 9 = .ok (.bipush 7, 2) := by decide +kernel
theorem dX11_mark_11 : decode cX11_mark 11 = .ok (.invokevirtual 106, 3) := by decide +kernel
theorem dX11_mark_14 : decode cX11_mark 14 = .ok (.ireturn, 1) := by decide +kernel
theorem dX11_mark_15 : decode cX11_mark 15 = .ok (.aload_n 0, 1) := by decide +kernel
theorem dX11_mark_16 : decode cX11_mark 16 = .ok (.getfield 40, 3) := by decide +kernel
theorem dX11_mark_19 : decode cX11_mark 19 = .ok (.aload_n 0, 1) := by decide +kernel
theorem dX11_mark_20 : decode cX11_mark 20 = .ok (.getfield 397, 3) := by decide +kernel
theorem dX11_mark_23 : decode cX11_mark 23 = .ok (.aaload, 1) := by decide +kernel
theorem dX11_mark_24 : decode cX11_mark 24 = .ok (.aload_n 0, 1) := by decide +kernel
theorem dX11_mark_25 : decode cX11_mark 25 = .ok (.getfield 36, 3) := by decide +kernel
theorem dX11_mark_28 : decode cX11_mark 28 = .ok (.invokevirtual 400, 3) := by decide +kernel
theorem dX11_mark_31 : decode cX11_mark 31 = .ok (.aload_n 0, 1) := by decide +kernel
theorem dX11_mark_32 : decode cX11_mark 32 = .ok (.dup, 1) := by decide +kernel
theorem dX11_mark_33 : decode cX11_mark 33 = .ok (.getfield 397, 3) := by decide +kernel
theorem dX11_mark_36 : decode cX11_mark 36 = .ok (.iconst 1, 1) := by decide +kernel
theorem dX11_mark_37 : decode cX11_mark 37 = .ok (.iadd, 1) := by decide +kernel
theorem dX11_mark_38 : decode cX11_mark 38 = .ok (.putfield 397, 3) := by decide +kernel
theorem dX11_mark_41 : decode cX11_mark 41 = .ok (.aload_n 0, 1) := by decide +kernel
theorem dX11_mark_42 : decode cX11_mark 42 = .ok (.aload_n 0, 1) := by decide +kernel
theorem dX11_mark_43 : decode cX11_mark 43 = .ok (.getfield 397, 3) := by decide +kernel
theorem dX11_mark_46 : decode cX11_mark 46 = .ok (.invokevirtual 165, 3) := by decide +kernel
theorem dX11_mark_49 : decode cX11_mark 49 = .ok (.ireturn, 1) := by decide +kernel
theorem dX11_back_0 : decode cX11_back 0 = .ok (.aload_n 0, 1) := by decide +kernel
theorem dX11_back_1 : decode cX11_back 1 = .ok (.getfield 397, 3) := by decide +kernel
theorem dX11_back_4 : decode cX11_back 4 = .ok (.ifCond .gt 10, 3) := by decide +kernel
theorem dX11_back_7 : decode cX11_back 7 = .ok (.aload_n 0, 1) := by decide +kernel
theorem dX11_back_8 : decode cX11_back 8 = .ok (.bipush 8, 2) := by decide +kernel
theorem dX11_back_10 : decode cX11_back 10 = .ok (.invokevirtual 106, 3) := by decide +kernel
theorem dX11_back_13 : decode cX11_back 13 = .ok (.ireturn, 1) := by decide +kernel
theorem dX11_back_14 : decode cX11_back 14 = .ok (.aload_n 0, 1) := by decide +kernel
theorem dX11_back_15 : decode cX11_back 15 = .ok (.dup, 1) := by decide +kernel
theorem dX11_back_16 : decode cX11_back 16 = .ok (.getfield 397, 3) := by decide +kernel
theorem dX11_back_19 : decode cX11_back 19 = .ok (.iconst 1, 1) := by decide +kernel
theorem dX11_back_20 : decode cX11_back 20 = .ok (.isub, 1) := by decide +kernel
theorem dX11_back_21 : decode cX11_back 21 = .ok (.putfield 397, 3) := by decide +kernel
theorem dX11_back_24 : decode cX11_back 24 = .ok (.aload_n 0, 1) := by decide +kernel
theorem dX11_back_25 : decode cX11_back 25 = .ok (.getfield 36, 3) := by decide +kernel
theorem dX11_back_28 : decode cX11_back 28 = .ok (.aload_n 0, 1) := by decide +kernel
theorem dX11_back_29 : decode cX11_back 29 = .ok (.getfield 40, 3) := by decide +kernel
theorem dX11_back_32 : decode cX11_back 32 = .ok (.aload_n 0, 1) := by decide +kernel
theorem dX11_back_33 : decode cX11_back 33 = .ok (.getfield 397, 3) := by decide +kernel
theorem dX11_back_36 : decode cX11_back 36 = .ok (.aaload, 1) := by decide +kernel
theorem dX11_back_37 : decode cX11_back 37 = .ok (.invokevirtual 400, 3) := by decide +kernel
theorem dX11_back_40 : decode cX11_back 40 = .ok (.aload_n 0, 1) := by decide +kernel
theorem dX11_back_41 : decode cX11_back 41 = .ok (.aload_n 0, 1) := by decide +kernel
theorem dX11_back_42 : decode cX11_back 42 = .ok (.getfield 397, 3) := by decide +kernel
theorem dX11_back_45 : decode cX11_back 45 = .ok (.invokevirtual 165, 3) := by decide +kernel
theorem dX11_back_48 : decode cX11_back 48 = .ok (.ireturn, 1) := by decide +kernel
theorem dX11_answered_0 : decode cX11_answered 0 = .ok (.aload_n 0, 1) := by decide +kernel
theorem dX11_answered_1 : decode cX11_answered 1 = .ok (.iconst 0, 1) := by decide +kernel
theorem dX11_answered_2 : decode cX11_answered 2 = .ok (.putfield 83, 3) := by decide +kernel
theorem dX11_answered_5 : decode cX11_answered 5 = .ok (.iload_n 1, 1) := by decide +kernel
theorem dX11_answered_6 : decode cX11_answered 6 = .ok (.ireturn, 1) := by decide +kernel
theorem dX11_refused_0 : decode cX11_refused 0 = .ok (.aload_n 0, 1) := by decide +kernel
theorem dX11_refused_1 : decode cX11_refused 1 = .ok (.iload_n 1, 1) := by decide +kernel
theorem dX11_refused_2 : decode cX11_refused 2 = .ok (.putfield 83, 3) := by decide +kernel
theorem dX11_refused_5 : decode cX11_refused 5 = .ok (.iconst (-1), 1) := by decide +kernel
theorem dX11_refused_6 : decode cX11_refused 6 = .ok (.ireturn, 1) := by decide +kernel
theorem dX11_isDone_0 : decode cX11_isDone 0 = .ok (.aload_n 0, 1) := by decide +kernel
theorem dX11_isDone_1 : decode cX11_isDone 1 = .ok (.iload_n 1, 1) := by decide +kernel
theorem dX11_isDone_2 : decode cX11_isDone 2 = .ok (.putfield 83, 3) := by decide +kernel
theorem dX11_isDone_5 : decode cX11_isDone 5 = .ok (.iload_n 1, 1) := by decide +kernel
theorem dX11_isDone_6 : decode cX11_isDone 6 = .ok (.ifCond .ne 7, 3) := by decide +kernel
theorem dX11_isDone_9 : decode cX11_isDone 9 = .ok (.iconst 1, 1) := by decide +kernel
theorem dX11_isDone_10 : decode cX11_isDone 10 = .ok (.goto 4, 3) := by decide +kernel
theorem dX11_isDone_13 : decode cX11_isDone 13 = .ok (.iconst 0, 1) := by decide +kernel
theorem dX11_isDone_14 : decode cX11_isDone 14 = .ok (.ireturn, 1) := by decide +kernel
theorem dX11_putBytes_0 : decode cX11_putBytes 0 = .ok (.bipush 24, 2) := by decide +kernel
theorem dX11_putBytes_2 : decode cX11_putBytes 2 = .ok (.istore_n 2, 1) := by decide +kernel
theorem dX11_putBytes_3 : decode cX11_putBytes 3 = .ok (.iload_n 2, 1) := by decide +kernel
theorem dX11_putBytes_4 : decode cX11_putBytes 4 = .ok (.ifCond .lt 42, 3) := by decide +kernel
theorem dX11_putBytes_7 : decode cX11_putBytes 7 = .ok (.aload_n 0, 1) := by decide +kernel
theorem dX11_putBytes_8 : decode cX11_putBytes 8 = .ok (.getfield 130, 3) := by decide +kernel
theorem dX11_putBytes_11 : decode cX11_putBytes 11 = .ok (.sipush 900, 3) := by decide +kernel
theorem dX11_putBytes_14 : decode cX11_putBytes 14 = .ok (.if_icmp .ge 32, 3) := by decide +kernel
theorem dX11_putBytes_17 : decode cX11_putBytes 17 = .ok (.aload_n 0, 1) := by decide +kernel
theorem dX11_putBytes_18 : decode cX11_putBytes 18 = .ok (.getfield 15, 3) := by decide +kernel
theorem dX11_putBytes_21 : decode cX11_putBytes 21 = .ok (.aload_n 0, 1) := by decide +kernel
theorem dX11_putBytes_22 : decode cX11_putBytes 22 = .ok (.getfield 130, 3) := by decide +kernel
theorem dX11_putBytes_25 : decode cX11_putBytes 25 = .ok (.iload_n 1, 1) := by decide +kernel
theorem dX11_putBytes_26 : decode cX11_putBytes 26 = .ok (.iload_n 2, 1) := by decide +kernel
theorem dX11_putBytes_27 : decode cX11_putBytes 27 = .ok (.ishr, 1) := by decide +kernel
theorem dX11_putBytes_28 : decode cX11_putBytes 28 = .ok (.i2b, 1) := by decide +kernel
theorem dX11_putBytes_29 : decode cX11_putBytes 29 = .ok (.bastore, 1) := by decide +kernel
theorem dX11_putBytes_30 : decode cX11_putBytes 30 = .ok (.aload_n 0, 1) := by decide +kernel
theorem dX11_putBytes_31 : decode cX11_putBytes 31 = .ok (.dup, 1) := by decide +kernel
theorem dX11_putBytes_32 : decode cX11_putBytes 32 = .ok (.getfield 130, 3) := by decide +kernel
theorem dX11_putBytes_35 : decode cX11_putBytes 35 = .ok (.iconst 1, 1) := by decide +kernel
theorem dX11_putBytes_36 : decode cX11_putBytes 36 = .ok (.iadd, 1) := by decide +kernel
theorem dX11_putBytes_37 : decode cX11_putBytes 37 = .ok (.putfield 130, 3) := by decide +kernel
theorem dX11_putBytes_40 : decode cX11_putBytes 40 = .ok (.iinc 2 (-8), 3) := by decide +kernel
theorem dX11_putBytes_43 : decode cX11_putBytes 43 = .ok (.goto (-40), 3) := by decide +kernel
theorem dX11_putBytes_46 : decode cX11_putBytes 46 = .ok (.return_, 1) := by decide +kernel
theorem dX11_tellFault_0 : decode cX11_tellFault 0 = .ok (.aload_n 0, 1) := by decide +kernel
theorem dX11_tellFault_1 : decode cX11_tellFault 1 = .ok (.getfield 79, 3) := by decide +kernel
theorem dX11_tellFault_4 : decode cX11_tellFault 4 = .ok (.iconst 0, 1) := by decide +kernel
theorem dX11_tellFault_5 : decode cX11_tellFault 5 = .ok (.aload_n 1, 1) := by decide +kernel
theorem dX11_tellFault_6 : decode cX11_tellFault 6 = .ok (.getfield 403, 3) := by decide +kernel
theorem dX11_tellFault_9 : decode cX11_tellFault 9 = .ok (.iastore, 1) := by decide +kernel
theorem dX11_tellFault_10 : decode cX11_tellFault 10 = .ok (.aload_n 0, 1) := by decide +kernel
theorem dX11_tellFault_11 : decode cX11_tellFault 11 = .ok (.getfield 79, 3) := by decide +kernel
theorem dX11_tellFault_14 : decode cX11_tellFault 14 = .ok (.iconst 1, 1) := by decide +kernel
theorem dX11_tellFault_15 : decode cX11_tellFault 15 = .ok (.aload_n 1, 1) := by decide +kernel
theorem dX11_tellFault_16 : decode cX11_tellFault 16 = .ok (.getfield 408, 3) := by decide +kernel
theorem dX11_tellFault_19 : decode cX11_tellFault 19 = .ok (.iastore, 1) := by decide +kernel
theorem dX11_tellFault_20 : decode cX11_tellFault 20 = .ok (.return_, 1) := by decide +kernel
theorem dX11_tellFraction_0 : decode cX11_tellFraction 0 = .ok (.iload_n 1, 1) := by decide +kernel
theorem dX11_tellFraction_1 : decode cX11_tellFraction 1 = .ok (.iload_n 2, 1) := by decide +kernel
theorem dX11_tellFraction_2 : decode cX11_tellFraction 2 = .ok (.invokestatic 411, 3) := by decide +kernel
theorem dX11_tellFraction_5 : decode cX11_tellFraction 5 = .ok (.istore_n 3, 1) := by decide +kernel
theorem dX11_tellFraction_6 : decode cX11_tellFraction 6 = .ok (.iload_n 2, 1) := by decide +kernel
theorem dX11_tellFraction_7 : decode cX11_tellFraction 7 = .ok (.ifCond .le 27, 3) := by decide +kernel
theorem dX11_tellFraction_10 : decode cX11_tellFraction 10 = .ok (.iload_n 3, 1) := by decide +kernel
theorem dX11_tellFraction_11 : decode cX11_tellFraction 11 = .ok (.ifCond .le 23, 3) := by decide +kernel
theorem dX11_tellFraction_14 : decode cX11_tellFraction 14 = .ok (.aload_n 0, 1) := by decide +kernel
theorem dX11_tellFraction_15 : decode cX11_tellFraction 15 = .ok (.getfield 75, 3) := by decide +kernel
theorem dX11_tellFraction_18 : decode cX11_tellFraction 18 = .ok (.iconst 0, 1) := by decide +kernel
theorem dX11_tellFraction_19 : decode cX11_tellFraction 19 = .ok (.iload_n 1, 1) := by decide +kernel
theorem dX11_tellFraction_20 : decode cX11_tellFraction 20 = .ok (.iload_n 3, 1) := by decide +kernel
theorem dX11_tellFraction_21 : decode cX11_tellFraction 21 = .ok (.idiv, 1) := by decide +kernel
theorem dX11_tellFraction_22 : decode cX11_tellFraction 22 = .ok (.i2l, 1) := by decide +kernel
theorem dX11_tellFraction_23 : decode cX11_tellFraction 23 = .ok (.lastore, 1) := by decide +kernel
theorem dX11_tellFraction_24 : decode cX11_tellFraction 24 = .ok (.aload_n 0, 1) := by decide +kernel
theorem dX11_tellFraction_25 : decode cX11_tellFraction 25 = .ok (.getfield 75, 3) := by decide +kernel
theorem dX11_tellFraction_28 : decode cX11_tellFraction 28 = .ok (.iconst 1, 1) := by decide +kernel
theorem dX11_tellFraction_29 : decode cX11_tellFraction 29 = .ok (.iload_n 2, 1) := by decide +kernel
theorem dX11_tellFraction_30 : decode cX11_tellFraction 30 = .ok (.iload_n 3, 1) := by decide +kernel
theorem dX11_tellFraction_31 : decode cX11_tellFraction 31 = .ok (.idiv, 1) := by decide +kernel
theorem dX11_tellFraction_32 : decode cX11_tellFraction 32 = .ok (.i2l, 1) := by decide +kernel
theorem dX11_tellFraction_33 : decode cX11_tellFraction 33 = .ok (.lastore, 1) := by decide +kernel
theorem dX11_tellFraction_34 : decode cX11_tellFraction 34 = .ok (.return_, 1) := by decide +kernel
theorem dX11_commonDivisor_0 : decode cX11_commonDivisor 0 = .ok (.iload_n 1, 1) := by decide +kernel
theorem dX11_commonDivisor_1 : decode cX11_commonDivisor 1 = .ok (.istore_n 2, 1) := by decide +kernel
theorem dX11_commonDivisor_2 : decode cX11_commonDivisor 2 = .ok (.iload_n 0, 1) := by decide +kernel
theorem dX11_commonDivisor_3 : decode cX11_commonDivisor 3 = .ok (.istore_n 3, 1) := by decide +kernel
theorem dX11_commonDivisor_4 : decode cX11_commonDivisor 4 = .ok (.iconst 0, 1) := by decide +kernel
theorem dX11_commonDivisor_5 : decode cX11_commonDivisor 5 = .ok (.istore 4, 2) := by decide +kernel
theorem dX11_commonDivisor_7 : decode cX11_commonDivisor 7 = .ok (.iload 4, 2) := by decide +kernel
theorem dX11_commonDivisor_9 : decode cX11_commonDivisor 9 = .ok (.bipush 100, 2) := by decide +kernel
theorem dX11_commonDivisor_11 : decode cX11_commonDivisor 11 = .ok (.if_icmp .ge 23, 3) := by decide +kernel
theorem dX11_commonDivisor_14 : decode cX11_commonDivisor 14 = .ok (.iload_n 3, 1) := by decide +kernel
theorem dX11_commonDivisor_15 : decode cX11_commonDivisor 15 = .ok (.ifCond .eq 19, 3) := by decide +kernel
theorem dX11_commonDivisor_18 : decode cX11_commonDivisor 18 = .ok (.iload_n 2, 1) := by decide +kernel
theorem dX11_commonDivisor_19 : decode cX11_commonDivisor 19 = .ok (.iload_n 3, 1) := by decide +kernel
theorem dX11_commonDivisor_20 : decode cX11_commonDivisor 20 = .ok (.irem, 1) := by decide +kernel
theorem dX11_commonDivisor_21 : decode cX11_commonDivisor 21 = .ok (.istore 5, 2) := by decide +kernel
theorem dX11_commonDivisor_23 : decode cX11_commonDivisor 23 = .ok (.iload_n 3, 1) := by decide +kernel
theorem dX11_commonDivisor_24 : decode cX11_commonDivisor 24 = .ok (.istore_n 2, 1) := by decide +kernel
theorem dX11_commonDivisor_25 : decode cX11_commonDivisor 25 = .ok (.iload 5, 2) := by decide +kernel
theorem dX11_commonDivisor_27 : decode cX11_commonDivisor 27 = .ok (.istore_n 3, 1) := by decide +kernel
theorem dX11_commonDivisor_28 : decode cX11_commonDivisor 28 = .ok (.iinc 4 1, 3) := by decide +kernel
theorem dX11_commonDivisor_31 : decode cX11_commonDivisor 31 = .ok (.goto (-24), 3) := by decide +kernel
theorem dX11_commonDivisor_34 : decode cX11_commonDivisor 34 = .ok (.iload_n 2, 1) := by decide +kernel
theorem dX11_commonDivisor_35 : decode cX11_commonDivisor 35 = .ok (.ireturn, 1) := by decide +kernel
theorem dX11_isTray_0 : decode cX11_isTray 0 = .ok (.iload_n 0, 1) := by decide +kernel
theorem dX11_isTray_1 : decode cX11_isTray 1 = .ok (.ifCond .lt 12, 3) := by decide +kernel
theorem dX11_isTray_4 : decode cX11_isTray 4 = .ok (.iload_n 0, 1) := by decide +kernel
theorem dX11_isTray_5 : decode cX11_isTray 5 = .ok (.iconst 4, 1) := by decide +kernel
theorem dX11_isTray_6 : decode cX11_isTray 6 = .ok (.if_icmp .ge 7, 3) := by decide +kernel
theorem dX11_isTray_9 : decode cX11_isTray 9 = .ok (.iconst 1, 1) := by decide +kernel
theorem dX11_isTray_10 : decode cX11_isTray 10 = .ok (.goto 4, 3) := by decide +kernel
theorem dX11_isTray_13 : decode cX11_isTray 13 = .ok (.iconst 0, 1) := by decide +kernel
theorem dX11_isTray_14 : decode cX11_isTray 14 = .ok (.ireturn, 1) := by decide +kernel
theorem dX11_isHeight_0 : decode cX11_isHeight 0 = .ok (.lload_n 0, 1) := by decide +kernel
theorem dX11_isHeight_1 : decode cX11_isHeight 1 = .ok (.lconst 0, 1) := by decide +kernel
theorem dX11_isHeight_2 : decode cX11_isHeight 2 = .ok (.lcmp, 1) := by decide +kernel
theorem dX11_isHeight_3 : decode cX11_isHeight 3 = .ok (.ifCond .lt 15, 3) := by decide +kernel
theorem dX11_isHeight_6 : decode cX11_isHeight 6 = .ok (.lload_n 0, 1) := by decide +kernel
theorem dX11_isHeight_7 : decode cX11_isHeight 7 = .ok (.ldc2_w 414, 3) := by decide +kernel
theorem dX11_isHeight_10 : decode cX11_isHeight 10 = .ok (.lcmp, 1) := by decide +kernel
theorem dX11_isHeight_11 : decode cX11_isHeight 11 = .ok (.ifCond .gt 7, 3) := by decide +kernel
theorem dX11_isHeight_14 : decode cX11_isHeight 14 = .ok (.iconst 1, 1) := by decide +kernel
theorem dX11_isHeight_15 : decode cX11_isHeight 15 = .ok (.goto 4, 3) := by decide +kernel
theorem dX11_isHeight_18 : decode cX11_isHeight 18 = .ok (.iconst 0, 1) := by decide +kernel
theorem dX11_isHeight_19 : decode cX11_isHeight 19 = .ok (.ireturn, 1) := by decide +kernel
theorem dX11_isSeed_0 : decode cX11_isSeed 0 = .ok (.iload_n 0, 1) := by decide +kernel
theorem dX11_isSeed_1 : decode cX11_isSeed 1 = .ok (.ifCond .lt 14, 3) := by decide +kernel
theorem dX11_isSeed_4 : decode cX11_isSeed 4 = .ok (.iload_n 0, 1) := by decide +kernel
theorem dX11_isSeed_5 : decode cX11_isSeed 5 = .ok (.sipush 9999, 3) := by decide +kernel
theorem dX11_isSeed_8 : decode cX11_isSeed 8 = .ok (.if_icmp .gt 7, 3) := by decide +kernel
theorem dX11_isSeed_11 : decode cX11_isSeed 11 = .ok (.iconst 1, 1) := by decide +kernel
theorem dX11_isSeed_12 : decode cX11_isSeed 12 = .ok (.goto 4, 3) := by decide +kernel
theorem dX11_isSeed_15 : decode cX11_isSeed 15 = .ok (.iconst 0, 1) := by decide +kernel
theorem dX11_isSeed_16 : decode cX11_isSeed 16 = .ok (.ireturn, 1) := by decide +kernel
theorem dX11_trayPlaceStatus_0 : decode cX11_trayPlaceStatus 0 = .ok (.iload_n 1, 1) := by decide +kernel
theorem dX11_trayPlaceStatus_1 : decode cX11_trayPlaceStatus 1 = .ok (.invokestatic 87, 3) := by decide +kernel
theorem dX11_trayPlaceStatus_4 : decode cX11_trayPlaceStatus 4 = .ok (.ifCond .ne 5, 3) := by decide +kernel
theorem dX11_trayPlaceStatus_7 : decode cX11_trayPlaceStatus 7 = .ok (.iconst 1, 1) := by decide +kernel
theorem dX11_trayPlaceStatus_8 : decode cX11_trayPlaceStatus 8 = .ok (.ireturn, 1) := by decide +kernel
theorem dX11_trayPlaceStatus_9 : decode cX11_trayPlaceStatus 9 = .ok (.aload_n 0, 1) := by decide +kernel
theorem dX11_trayPlaceStatus_10 : decode cX11_trayPlaceStatus 10 = .ok (.getfield 11, 3) := by decide +kernel
theorem dX11_trayPlaceStatus_13 : decode cX11_trayPlaceStatus 13 = .ok (.iload_n 1, 1) := by decide +kernel
theorem dX11_trayPlaceStatus_14 : decode cX11_trayPlaceStatus 14 = .ok (.aaload, 1) := by decide +kernel
theorem dX11_trayPlaceStatus_15 : decode cX11_trayPlaceStatus 15 = .ok (.getfield 113, 3) := by decide +kernel
theorem dX11_trayPlaceStatus_18 : decode cX11_trayPlaceStatus 18 = .ok (.ifCond .ne 5, 3) := by decide +kernel
theorem dX11_trayPlaceStatus_21 : decode cX11_trayPlaceStatus 21 = .ok (.iconst 3, 1) := by decide +kernel
theorem dX11_trayPlaceStatus_22 : decode cX11_trayPlaceStatus 22 = .ok (.ireturn, 1) := by decide +kernel
theorem dX11_trayPlaceStatus_23 : decode cX11_trayPlaceStatus 23 = .ok (.aload_n 0, 1) := by decide +kernel
theorem dX11_trayPlaceStatus_24 : decode cX11_trayPlaceStatus 24 = .ok (.getfield 11, 3) := by decide +kernel
theorem dX11_trayPlaceStatus_27 : decode cX11_trayPlaceStatus 27 = .ok (.iload_n 1, 1) := by decide +kernel
theorem dX11_trayPlaceStatus_28 : decode cX11_trayPlaceStatus 28 = .ok (.aaload, 1) := by decide +kernel
theorem dX11_trayPlaceStatus_29 : decode cX11_trayPlaceStatus 29 = .ok (.iload_n 2, 1) := by decide +kernel
theorem dX11_trayPlaceStatus_30 : decode cX11_trayPlaceStatus 30 = .ok (.iconst 1, 1) := by decide +kernel
theorem dX11_trayPlaceStatus_31 : decode cX11_trayPlaceStatus 31 = .ok (.invokevirtual 120, 3) := by decide +kernel
theorem dX11_trayPlaceStatus_34 : decode cX11_trayPlaceStatus 34 = .ok (.ifCond .eq 7, 3) := by decide +kernel
theorem dX11_trayPlaceStatus_37 : decode cX11_trayPlaceStatus 37 = .ok (.iconst 0, 1) := by decide +kernel
theorem dX11_trayPlaceStatus_38 : decode cX11_trayPlaceStatus 38 = .ok (.goto 4, 3) := by decide +kernel
theorem dX11_trayPlaceStatus_41 : decode cX11_trayPlaceStatus 41 = .ok (.iconst 4, 1) := by decide +kernel
theorem dX11_trayPlaceStatus_42 : decode cX11_trayPlaceStatus 42 = .ok (.ireturn, 1) := by decide +kernel
theorem dX11_trayRowStatus_0 : decode cX11_trayRowStatus 0 = .ok (.iload_n 1, 1) := by decide +kernel
theorem dX11_trayRowStatus_1 : decode cX11_trayRowStatus 1 = .ok (.invokestatic 87, 3) := by decide +kernel
theorem dX11_trayRowStatus_4 : decode cX11_trayRowStatus 4 = .ok (.ifCond .ne 5, 3) := by decide +kernel
theorem dX11_trayRowStatus_7 : decode cX11_trayRowStatus 7 = .ok (.iconst 1, 1) := by decide +kernel
theorem dX11_trayRowStatus_8 : decode cX11_trayRowStatus 8 = .ok (.ireturn, 1) := by decide +kernel
theorem dX11_trayRowStatus_9 : decode cX11_trayRowStatus 9 = .ok (.aload_n 0, 1) := by decide +kernel
theorem dX11_trayRowStatus_10 : decode cX11_trayRowStatus 10 = .ok (.getfield 11, 3) := by decide +kernel
theorem dX11_trayRowStatus_13 : decode cX11_trayRowStatus 13 = .ok (.iload_n 1, 1) := by decide +kernel
theorem dX11_trayRowStatus_14 : decode cX11_trayRowStatus 14 = .ok (.aaload, 1) := by decide +kernel
theorem dX11_trayRowStatus_15 : decode cX11_trayRowStatus 15 = .ok (.getfield 113, 3) := by decide +kernel
theorem dX11_trayRowStatus_18 : decode cX11_trayRowStatus 18 = .ok (.ifCond .eq 16, 3) := by decide +kernel
theorem dX11_trayRowStatus_21 : decode cX11_trayRowStatus 21 = .ok (.aload_n 0, 1) := by decide +kernel
theorem dX11_trayRowStatus_22 : decode cX11_trayRowStatus 22 = .ok (.getfield 11, 3) := by decide +kernel
theorem dX11_trayRowStatus_25 : decode cX11_trayRowStatus 25 = .ok (.iload_n 1, 1) := by decide +kernel
theorem dX11_trayRowStatus_26 : decode cX11_trayRowStatus 26 = .ok (.aaload, 1) := by decide +kernel
theorem dX11_trayRowStatus_27 : decode cX11_trayRowStatus 27 = .ok (.iload_n 2, 1) := by decide +kernel
theorem dX11_trayRowStatus_28 : decode cX11_trayRowStatus 28 = .ok (.invokevirtual 416, 3) := by decide +kernel
theorem dX11_trayRowStatus_31 : decode cX11_trayRowStatus 31 = .ok (.goto 4, 3) := by decide +kernel
theorem dX11_trayRowStatus_34 : decode cX11_trayRowStatus 34 = .ok (.iconst 3, 1) := by decide +kernel
theorem dX11_trayRowStatus_35 : decode cX11_trayRowStatus 35 = .ok (.ireturn, 1) := by decide +kernel
theorem dX11_toldStatus_0 : decode cX11_toldStatus 0 = .ok (.iload_n 1, 1) := by decide +kernel
theorem dX11_toldStatus_1 : decode cX11_toldStatus 1 = .ok (.invokestatic 87, 3) := by decide +kernel
theorem dX11_toldStatus_4 : decode cX11_toldStatus 4 = .ok (.ifCond .ne 5, 3) := by decide +kernel
theorem dX11_toldStatus_7 : decode cX11_toldStatus 7 = .ok (.iconst 1, 1) := by decide +kernel
theorem dX11_toldStatus_8 : decode cX11_toldStatus 8 = .ok (.ireturn, 1) := by decide +kernel
theorem dX11_toldStatus_9 : decode cX11_toldStatus 9 = .ok (.aload_n 0, 1) := by decide +kernel
theorem dX11_toldStatus_10 : decode cX11_toldStatus 10 = .ok (.getfield 11, 3) := by decide +kernel
theorem dX11_toldStatus_13 : decode cX11_toldStatus 13 = .ok (.iload_n 1, 1) := by decide +kernel
theorem dX11_toldStatus_14 : decode cX11_toldStatus 14 = .ok (.aaload, 1) := by decide +kernel
theorem dX11_toldStatus_15 : decode cX11_toldStatus 15 = .ok (.getfield 113, 3) := by decide +kernel
theorem dX11_toldStatus_18 : decode cX11_toldStatus 18 = .ok (.ifCond .ne 5, 3) := by decide +kernel
theorem dX11_toldStatus_21 : decode cX11_toldStatus 21 = .ok (.iconst 3, 1) := by decide +kernel
theorem dX11_toldStatus_22 : decode cX11_toldStatus 22 = .ok (.ireturn, 1) := by decide +kernel
theorem dX11_toldStatus_23 : decode cX11_toldStatus 23 = .ok (.iload_n 2, 1) := by decide +kernel
theorem dX11_toldStatus_24 : decode cX11_toldStatus 24 = .ok (.iload_n 3, 1) := by decide +kernel
theorem dX11_toldStatus_25 : decode cX11_toldStatus 25 = .ok (.if_icmp .lt 9, 3) := by decide +kernel
theorem dX11_toldStatus_28 : decode cX11_toldStatus 28 = .ok (.iload_n 2, 1) := by decide +kernel
theorem dX11_toldStatus_29 : decode cX11_toldStatus 29 = .ok (.iload 4, 2) := by decide +kernel
theorem dX11_toldStatus_31 : decode cX11_toldStatus 31 = .ok (.if_icmp .le 5, 3) := by decide +kernel
theorem dX11_toldStatus_34 : decode cX11_toldStatus 34 = .ok (.iconst 5, 1) := by decide +kernel
theorem dX11_toldStatus_35 : decode cX11_toldStatus 35 = .ok (.ireturn, 1) := by decide +kernel
theorem dX11_toldStatus_36 : decode cX11_toldStatus 36 = .ok (.aload_n 0, 1) := by decide +kernel
theorem dX11_toldStatus_37 : decode cX11_toldStatus 37 = .ok (.getfield 11, 3) := by decide +kernel
theorem dX11_toldStatus_40 : decode cX11_toldStatus 40 = .ok (.iload_n 1, 1) := by decide +kernel
theorem dX11_toldStatus_41 : decode cX11_toldStatus 41 = .ok (.aaload, 1) := by decide +kernel
theorem dX11_toldStatus_42 : decode cX11_toldStatus 42 = .ok (.iload_n 2, 1) := by decide +kernel
theorem dX11_toldStatus_43 : decode cX11_toldStatus 43 = .ok (.iload 5, 2) := by decide +kernel
theorem dX11_toldStatus_45 : decode cX11_toldStatus 45 = .ok (.imul, 1) := by decide +kernel
theorem dX11_toldStatus_46 : decode cX11_toldStatus 46 = .ok (.invokevirtual 416, 3) := by decide +kernel
theorem dX11_toldStatus_49 : decode cX11_toldStatus 49 = .ok (.ireturn, 1) := by decide +kernel
theorem dX11_coupleStatus_0 : decode cX11_coupleStatus 0 = .ok (.aload_n 0, 1) := by decide +kernel
theorem dX11_coupleStatus_1 : decode cX11_coupleStatus 1 = .ok (.getfield 113, 3) := by decide +kernel
theorem dX11_coupleStatus_4 : decode cX11_coupleStatus 4 = .ok (.ifCond .eq 10, 3) := by decide +kernel
theorem dX11_coupleStatus_7 : decode cX11_coupleStatus 7 = .ok (.aload_n 1, 1) := by decide +kernel
theorem dX11_coupleStatus_8 : decode cX11_coupleStatus 8 = .ok (.getfield 113, 3) := by decide +kernel
theorem dX11_coupleStatus_11 : decode cX11_coupleStatus 11 = .ok (.ifCond .ne 5, 3) := by decide +kernel
theorem dX11_coupleStatus_14 : decode cX11_coupleStatus 14 = .ok (.iconst 3, 1) := by decide +kernel
theorem dX11_coupleStatus_15 : decode cX11_coupleStatus 15 = .ok (.ireturn, 1) := by decide +kernel
theorem dX11_coupleStatus_16 : decode cX11_coupleStatus 16 = .ok (.aload_n 0, 1) := by decide +kernel
theorem dX11_coupleStatus_17 : decode cX11_coupleStatus 17 = .ok (.iload_n 2, 1) := by decide +kernel
theorem dX11_coupleStatus_18 : decode cX11_coupleStatus 18 = .ok (.invokevirtual 416, 3) := by decide +kernel
theorem dX11_coupleStatus_21 : decode cX11_coupleStatus 21 = .ok (.istore_n 3, 1) := by decide +kernel
theorem dX11_coupleStatus_22 : decode cX11_coupleStatus 22 = .ok (.aload_n 1, 1) := by decide +kernel
theorem dX11_coupleStatus_23 : decode cX11_coupleStatus 23 = .ok (.iload_n 2, 1) := by decide +kernel
theorem dX11_coupleStatus_24 : decode cX11_coupleStatus 24 = .ok (.invokevirtual 416, 3) := by decide +kernel
theorem dX11_coupleStatus_27 : decode cX11_coupleStatus 27 = .ok (.istore 4, 2) := by decide +kernel
theorem dX11_coupleStatus_29 : decode cX11_coupleStatus 29 = .ok (.iload_n 3, 1) := by decide +kernel
theorem dX11_coupleStatus_30 : decode cX11_coupleStatus 30 = .ok (.iconst 4, 1) := by decide +kernel
theorem dX11_coupleStatus_31 : decode cX11_coupleStatus 31 = .ok (.if_icmp .eq 9, 3) := by decide +kernel
theorem dX11_coupleStatus_34 : decode cX11_coupleStatus 34 = .ok (.iload 4, 2) := by decide +kernel
theorem dX11_coupleStatus_36 : decode cX11_coupleStatus 36 = .ok (.iconst 4, 1) := by decide +kernel
theorem dX11_coupleStatus_37 : decode cX11_coupleStatus 37 = .ok (.if_icmp .ne 5, 3) := by decide +kernel
theorem dX11_coupleStatus_40 : decode cX11_coupleStatus 40 = .ok (.iconst 4, 1) := by decide +kernel
theorem dX11_coupleStatus_41 : decode cX11_coupleStatus 41 = .ok (.ireturn, 1) := by decide +kernel
theorem dX11_coupleStatus_42 : decode cX11_coupleStatus 42 = .ok (.iload_n 3, 1) := by decide +kernel
theorem dX11_coupleStatus_43 : decode cX11_coupleStatus 43 = .ok (.ifCond .eq 7, 3) := by decide +kernel
theorem dX11_coupleStatus_46 : decode cX11_coupleStatus 46 = .ok (.iload_n 3, 1) := by decide +kernel
theorem dX11_coupleStatus_47 : decode cX11_coupleStatus 47 = .ok (.goto 5, 3) := by decide +kernel
theorem dX11_coupleStatus_50 : decode cX11_coupleStatus 50 = .ok (.iload 4, 2) := by decide +kernel
theorem dX11_coupleStatus_52 : decode cX11_coupleStatus 52 = .ok (.ireturn, 1) := by decide +kernel
theorem dX11_keptStatus_0 : decode cX11_keptStatus 0 = .ok (.aload_n 0, 1) := by decide +kernel
theorem dX11_keptStatus_1 : decode cX11_keptStatus 1 = .ok (.getfield 36, 3) := by decide +kernel
theorem dX11_keptStatus_4 : decode cX11_keptStatus 4 = .ok (.getfield 157, 3) := by decide +kernel
theorem dX11_keptStatus_7 : decode cX11_keptStatus 7 = .ok (.iload_n 1, 1) := by decide +kernel
theorem dX11_keptStatus_8 : decode cX11_keptStatus 8 = .ok (.invokevirtual 259, 3) := by decide +kernel
theorem dX11_keptStatus_11 : decode cX11_keptStatus 11 = .ok (.ifCond .ne 5, 3) := by decide +kernel
theorem dX11_keptStatus_14 : decode cX11_keptStatus 14 = .ok (.iconst 2, 1) := by decide +kernel
theorem dX11_keptStatus_15 : decode cX11_keptStatus 15 = .ok (.ireturn, 1) := by decide +kernel
theorem dX11_keptStatus_16 : decode cX11_keptStatus 16 = .ok (.aload_n 0, 1) := by decide +kernel
theorem dX11_keptStatus_17 : decode cX11_keptStatus 17 = .ok (.iload_n 1, 1) := by decide +kernel
theorem dX11_keptStatus_18 : decode cX11_keptStatus 18 = .ok (.invokevirtual 269, 3) := by decide +kernel
theorem dX11_keptStatus_21 : decode cX11_keptStatus 21 = .ok (.ifCond .eq 7, 3) := by decide +kernel
theorem dX11_keptStatus_24 : decode cX11_keptStatus 24 = .ok (.iconst 0, 1) := by decide +kernel
theorem dX11_keptStatus_25 : decode cX11_keptStatus 25 = .ok (.goto 5, 3) := by decide +kernel
theorem dX11_keptStatus_28 : decode cX11_keptStatus 28 = .ok (.bipush 9, 2) := by decide +kernel
theorem dX11_keptStatus_30 : decode cX11_keptStatus 30 = .ok (.ireturn, 1) := by decide +kernel
theorem dX11_canKeep_0 : decode cX11_canKeep 0 = .ok (.aload_n 0, 1) := by decide +kernel
theorem dX11_canKeep_1 : decode cX11_canKeep 1 = .ok (.getfield 47, 3) := by decide +kernel
theorem dX11_canKeep_4 : decode cX11_canKeep 4 = .ok (.aload_n 0, 1) := by decide +kernel
theorem dX11_canKeep_5 : decode cX11_canKeep 5 = .ok (.getfield 36, 3) := by decide +kernel
theorem dX11_canKeep_8 : decode cX11_canKeep 8 = .ok (.getfield 157, 3) := by decide +kernel
theorem dX11_canKeep_11 : decode cX11_canKeep 11 = .ok (.iload_n 1, 1) := by decide +kernel
theorem dX11_canKeep_12 : decode cX11_canKeep 12 = .ok (.invokevirtual 262, 3) := by decide +kernel
theorem dX11_canKeep_15 : decode cX11_canKeep 15 = .ok (.aload_n 0, 1) := by decide +kernel
theorem dX11_canKeep_16 : decode cX11_canKeep 16 = .ok (.getfield 47, 3) := by decide +kernel
theorem dX11_canKeep_19 : decode cX11_canKeep 19 = .ok (.aload_n 0, 1) := by decide +kernel
theorem dX11_canKeep_20 : decode cX11_canKeep 20 = .ok (.getfield 36, 3) := by decide +kernel
theorem dX11_canKeep_23 : decode cX11_canKeep 23 = .ok (.getfield 157, 3) := by decide +kernel
theorem dX11_canKeep_26 : decode cX11_canKeep 26 = .ok (.invokevirtual 315, 3) := by decide +kernel
theorem dX11_canKeep_29 : decode cX11_canKeep 29 = .ok (.ireturn, 1) := by decide +kernel
theorem dX12_init_0 : decode cX12_init 0 = .ok (.aload_n 0, 1) := by decide +kernel
theorem dX12_init_1 : decode cX12_init 1 = .ok (.invokespecial 1, 3) := by decide +kernel
theorem dX12_init_4 : decode cX12_init 4 = .ok (.aload_n 0, 1) := by decide +kernel
theorem dX12_init_5 : decode cX12_init 5 = .ok (.lconst 1, 1) := by decide +kernel
theorem dX12_init_6 : decode cX12_init 6 = .ok (.putfield 7, 3) := by decide +kernel
theorem dX12_init_9 : decode cX12_init 9 = .ok (.aload_n 0, 1) := by decide +kernel
theorem dX12_init_10 : decode cX12_init 10 = .ok (.iconst 4, 1) := by decide +kernel
theorem dX12_init_11 : decode cX12_init 11 = .ok (.newarray .int, 2) := by decide +kernel
theorem dX12_init_13 : decode cX12_init 13 = .ok (.putfield 13, 3) := by decide +kernel
theorem dX12_init_16 : decode cX12_init 16 = .ok (.aload_n 0, 1) := by decide +kernel
theorem dX12_init_17 : decode cX12_init 17 = .ok (.iconst 4, 1) := by decide +kernel
theorem dX12_init_18 : decode cX12_init 18 = .ok (.newarray .int, 2) := by decide +kernel
theorem dX12_init_20 : decode cX12_init 20 = .ok (.putfield 17, 3) := by decide +kernel
theorem dX12_init_23 : decode cX12_init 23 = .ok (.aload_n 0, 1) := by decide +kernel
theorem dX12_init_24 : decode cX12_init 24 = .ok (.sipush 240, 3) := by decide +kernel
theorem dX12_init_27 : decode cX12_init 27 = .ok (.newarray .long, 2) := by decide +kernel
theorem dX12_init_29 : decode cX12_init 29 = .ok (.putfield 20, 3) := by decide +kernel
theorem dX12_init_32 : decode cX12_init 32 = .ok (.aload_n 0, 1) := by decide +kernel
theorem dX12_init_33 : decode cX12_init 33 = .ok (.sipush 900, 3) := by decide +kernel
theorem dX12_init_36 : decode cX12_init 36 = .ok (.newarray .byte, 2) := by decide +kernel
theorem dX12_init_38 : decode cX12_init 38 = .ok (.putfield 24, 3) := by decide +kernel
theorem dX12_init_41 : decode cX12_init 41 = .ok (.aload_n 0, 1) := by decide +kernel
theorem dX12_init_42 : decode cX12_init 42 = .ok (.iconst (-1), 1) := by decide +kernel
theorem dX12_init_43 : decode cX12_init 43 = .ok (.putfield 28, 3) := by decide +kernel
theorem dX12_init_46 : decode cX12_init 46 = .ok (.aload_n 0, 1) := by decide +kernel
theorem dX12_init_47 : decode cX12_init 47 = .ok (.iconst (-1), 1) := by decide +kernel
theorem dX12_init_48 : decode cX12_init 48 = .ok (.putfield 32, 3) := by decide +kernel
theorem dX12_init_51 : decode cX12_init 51 = .ok (.aload_n 0, 1) := by decide +kernel
theorem dX12_init_52 : decode cX12_init 52 = .ok (.sipush 2060, 3) := by decide +kernel
theorem dX12_init_55 : decode cX12_init 55 = .ok (.newarray .int, 2) := by decide +kernel
theorem dX12_init_57 : decode cX12_init 57 = .ok (.putfield 35, 3) := by decide +kernel
theorem dX12_init_60 : decode cX12_init 60 = .ok (.aload_n 0, 1) := by decide +kernel
theorem dX12_init_61 : decode cX12_init 61 = .ok (.bipush 30, 2) := by decide +kernel
theorem dX12_init_63 : decode cX12_init 63 = .ok (.newarray .long, 2) := by decide +kernel
theorem dX12_init_65 : decode cX12_init 65 = .ok (.putfield 38, 3) := by decide +kernel
theorem dX12_init_68 : decode cX12_init 68 = .ok (.aload_n 0, 1) := by decide +kernel
theorem dX12_init_69 : decode cX12_init 69 = .ok (.bipush 6, 2) := by decide +kernel
theorem dX12_init_71 : decode cX12_init 71 = .ok (.newarray .boolean, 2) := by decide +kernel
theorem dX12_init_73 : decode cX12_init 73 = .ok (.putfield 41, 3) := by decide +kernel
theorem dX12_init_76 : decode cX12_init 76 = .ok (.aload_n 0, 1) := by decide +kernel
theorem dX12_init_77 : decode cX12_init 77 = .ok (.bipush 54, 2) := by decide +kernel
theorem dX12_init_79 : decode cX12_init 79 = .ok (.newarray .int, 2) := by decide +kernel
theorem dX12_init_81 : decode cX12_init 81 = .ok (.putfield 45, 3) := by decide +kernel
theorem dX12_init_84 : decode cX12_init 84 = .ok (.aload_n 0, 1) := by decide +kernel
theorem dX12_init_85 : decode cX12_init 85 = .ok (.bipush 25, 2) := by decide +kernel
theorem dX12_init_87 : decode cX12_init 87 = .ok (.newarray .int, 2) := by decide +kernel
theorem dX12_init_89 : decode cX12_init 89 = .ok (.putfield 48, 3) := by decide +kernel
theorem dX12_init_92 : decode cX12_init 92 = .ok (.aload_n 0, 1) := by decide +kernel
theorem dX12_init_93 : decode cX12_init 93 = .ok (.bipush 25, 2) := by decide +kernel
theorem dX12_init_95 : decode cX12_init 95 = .ok (.newarray .int, 2) := by decide +kernel
theorem dX12_init_97 : decode cX12_init 97 = .ok (.putfield 51, 3) := by decide +kernel
theorem dX12_init_100 : decode cX12_init 100 = .ok (.aload_n 0, 1) := by decide +kernel
theorem dX12_init_101 : decode cX12_init 101 = .ok (.bipush 54, 2) := by decide +kernel
theorem dX12_init_103 : decode cX12_init 103 = .ok (.newarray .int, 2) := by decide +kernel
theorem dX12_init_105 : decode cX12_init 105 = .ok (.putfield 54, 3) := by decide +kernel
theorem dX12_init_108 : decode cX12_init 108 = .ok (.aload_n 0, 1) := by decide +kernel
theorem dX12_init_109 : decode cX12_init 109 = .ok (.bipush 12, 2) := by decide +kernel
theorem dX12_init_111 : decode cX12_init 111 = .ok (.newarray .int, 2) := by decide +kernel
theorem dX12_init_113 : decode cX12_init 113 = .ok (.putfield 57, 3) := by decide +kernel
theorem dX12_init_116 : decode cX12_init 116 = .ok (.aload_n 0, 1) := by decide +kernel
theorem dX12_init_117 : decode cX12_init 117 = .ok (.bipush 12, 2) := by decide +kernel
theorem dX12_init_119 : decode cX12_init 119 = .ok (.newarray .int, 2) := by decide +kernel
theorem dX12_init_121 : decode cX12_init 121 = .ok (.putfield 60, 3) := by decide +kernel
theorem dX12_init_124 : decode cX12_init 124 = .ok (.aload_n 0, 1) := by decide +kernel
theorem dX12_init_125 : decode cX12_init 125 = .ok (.bipush 25, 2) := by decide +kernel
theorem dX12_init_127 : decode cX12_init 127 = .ok (.newarray .int, 2) := by decide +kernel
theorem dX12_init_129 : decode cX12_init 129 = .ok (.putfield 63, 3) := by decide +kernel
theorem dX12_init_132 : decode cX12_init 132 = .ok (.aload_n 0, 1) := by decide +kernel
theorem dX12_init_133 : decode cX12_init 133 = .ok (.sipush 4096, 3) := by decide +kernel
theorem dX12_init_136 : decode cX12_init 136 = .ok (.newarray .boolean, 2) := by decide +kernel
theorem dX12_init_138 : decode cX12_init 138 = .ok (.putfield 66, 3) := by decide +kernel
theorem dX12_init_141 : decode cX12_init 141 = .ok (.aload_n 0, 1) := by decide +kernel
theorem dX12_init_142 : decode cX12_init 142 = .ok (.iconst 3, 1) := by decide +kernel
theorem dX12_init_143 : decode cX12_init 143 = .ok (.newarray .int, 2) := by decide +kernel
theorem dX12_init_145 : decode cX12_init 145 = .ok (.putfield 69, 3) := by decide +kernel
theorem dX12_init_148 : decode cX12_init 148 = .ok (.aload_n 0, 1) := by decide +kernel
theorem dX12_init_149 : decode cX12_init 149 = .ok (.bipush 25, 2) := by decide +kernel
theorem dX12_init_151 : decode cX12_init 151 = .ok (.newarray .int, 2) := by decide +kernel
theorem dX12_init_153 : decode cX12_init 153 = .ok (.putfield 72, 3) := by decide +kernel
theorem dX12_init_156 : decode cX12_init 156 = .ok (.aload_n 0, 1) := by decide +kernel
theorem dX12_init_157 : decode cX12_init 157 = .ok (.bipush 16, 2) := by decide +kernel
theorem dX12_init_159 : decode cX12_init 159 = .ok (.newarray .int, 2) := by decide +kernel
theorem dX12_init_161 : decode cX12_init 161 = .ok (.putfield 75, 3) := by decide +kernel
theorem dX12_init_164 : decode cX12_init 164 = .ok (.aload_n 0, 1) := by decide +kernel
theorem dX12_init_165 : decode cX12_init 165 = .ok (.bipush 16, 2) := by decide +kernel
theorem dX12_init_167 : decode cX12_init 167 = .ok (.newarray .int, 2) := by decide +kernel
theorem dX12_init_169 : decode cX12_init 169 = .ok (.putfield 78, 3) := by decide +kernel
theorem dX12_init_172 : decode cX12_init 172 = .ok (.iconst 0, 1) := by decide +kernel
theorem dX12_init_173 : decode cX12_init 173 = .ok (.istore_n 1, 1) := by decide +kernel
theorem dX12_init_174 : decode cX12_init 174 = .ok (.iload_n 1, 1) := by decide +kernel
theorem dX12_init_175 : decode cX12_init 175 = .ok (.iconst 4, 1) := by decide +kernel
theorem dX12_init_176 : decode cX12_init 176 = .ok (.if_icmp .ge 16, 3) := by decide +kernel
theorem dX12_init_179 : decode cX12_init 179 = .ok (.aload_n 0, 1) := by decide +kernel
theorem dX12_init_180 : decode cX12_init 180 = .ok (.getfield 17, 3) := by decide +kernel
theorem dX12_init_183 : decode cX12_init 183 = .ok (.iload_n 1, 1) := by decide +kernel
theorem dX12_init_184 : decode cX12_init 184 = .ok (.iconst (-1), 1) := by decide +kernel
theorem dX12_init_185 : decode cX12_init 185 = .ok (.iastore, 1) := by decide +kernel
theorem dX12_init_186 : decode cX12_init 186 = .ok (.iinc 1 1, 3) := by decide +kernel
theorem dX12_init_189 : decode cX12_init 189 = .ok (.goto (-15), 3) := by decide +kernel
theorem dX12_init_192 : decode cX12_init 192 = .ok (.return_, 1) := by decide +kernel
theorem dX12_status_0 : decode cX12_status 0 = .ok (.aload_n 0, 1) := by decide +kernel
theorem dX12_status_1 : decode cX12_status 1 = .ok (.iconst 0, 1) := by decide +kernel
theorem dX12_status_2 : decode cX12_status 2 = .ok (.putfield 81, 3) := by decide +kernel
theorem dX12_status_5 : decode cX12_status 5 = .ok (.aload_n 0, 1) := by decide +kernel
theorem dX12_status_6 : decode cX12_status 6 = .ok (.getfield 84, 3) := by decide +kernel
theorem dX12_status_9 : decode cX12_status 9 = .ok (.ireturn, 1) := by decide +kernel
theorem dX12_top_0 : decode cX12_top 0 = .ok (.aload_n 0, 1) := by decide +kernel
theorem dX12_top_1 : decode cX12_top 1 = .ok (.iconst 0, 1) := by decide +kernel
theorem dX12_top_2 : decode cX12_top 2 = .ok (.putfield 81, 3) := by decide +kernel
theorem dX12_top_5 : decode cX12_top 5 = .ok (.aload_n 0, 1) := by decide +kernel
theorem dX12_top_6 : decode cX12_top 6 = .ok (.getfield 87, 3) := by decide +kernel
theorem dX12_top_9 : decode cX12_top 9 = .ok (.lreturn, 1) := by decide +kernel
theorem dX12_bottom_0 : decode cX12_bottom 0 = .ok (.aload_n 0, 1) := by decide +kernel
theorem dX12_bottom_1 : decode cX12_bottom 1 = .ok (.iconst 0, 1) := by decide +kernel
theorem dX12_bottom_2 : decode cX12_bottom 2 = .ok (.putfield 81, 3) := by decide +kernel
theorem dX12_bottom_5 : decode cX12_bottom 5 = .ok (.aload_n 0, 1) := by decide +kernel
theorem dX12_bottom_6 : decode cX12_bottom 6 = .ok (.getfield 7, 3) := by decide +kernel
theorem dX12_bottom_9 : decode cX12_bottom 9 = .ok (.lreturn, 1) := by decide +kernel
theorem dX12_refuse_0 : decode cX12_refuse 0 = .ok (.aload_n 0, 1) := by decide +kernel
theorem dX12_refuse_1 : decode cX12_refuse 1 = .ok (.iload_n 1, 1) := by decide +kernel
theorem dX12_refuse_2 : decode cX12_refuse 2 = .ok (.putfield 84, 3) := by decide +kernel
theorem dX12_refuse_5 : decode cX12_refuse 5 = .ok (.iconst (-1), 1) := by decide +kernel
theorem dX12_refuse_6 : decode cX12_refuse 6 = .ok (.ireturn, 1) := by decide +kernel
theorem dX12_no_0 : decode cX12_no 0 = .ok (.aload_n 0, 1) := by decide +kernel
theorem dX12_no_1 : decode cX12_no 1 = .ok (.iload_n 1, 1) := by decide +kernel
theorem dX12_no_2 : decode cX12_no 2 = .ok (.putfield 84, 3) := by decide +kernel
theorem dX12_no_5 : decode cX12_no 5 = .ok (.iconst 0, 1) := by decide +kernel
theorem dX12_no_6 : decode cX12_no 6 = .ok (.ireturn, 1) := by decide +kernel
theorem dX12_isIn_0 : decode cX12_isIn 0 = .ok (.lload_n 0, 1) := by decide +kernel
theorem dX12_isIn_1 : decode cX12_isIn 1 = .ok (.lload_n 2, 1) := by decide +kernel
theorem dX12_isIn_2 : decode cX12_isIn 2 = .ok (.lcmp, 1) := by decide +kernel
theorem dX12_isIn_3 : decode cX12_isIn 3 = .ok (.ifCond .lt 14, 3) := by decide +kernel
theorem dX12_isIn_6 : decode cX12_isIn 6 = .ok (.lload_n 0, 1) := by decide +kernel
theorem dX12_isIn_7 : decode cX12_isIn 7 = .ok (.lload 4, 2) := by decide +kernel
theorem dX12_isIn_9 : decode cX12_isIn 9 = .ok (.lcmp, 1) := by decide +kernel
theorem dX12_isIn_10 : decode cX12_isIn 10 = .ok (.ifCond .gt 7, 3) := by decide +kernel
theorem dX12_isIn_13 : decode cX12_isIn 13 = .ok (.iconst 1, 1) := by decide +kernel
theorem dX12_isIn_14 : decode cX12_isIn 14 = .ok (.goto 4, 3) := by decide +kernel
theorem dX12_isIn_17 : decode cX12_isIn 17 = .ok (.iconst 0, 1) := by decide +kernel
theorem dX12_isIn_18 : decode cX12_isIn 18 = .ok (.ireturn, 1) := by decide +kernel
theorem dX12_fraction_0 : decode cX12_fraction 0 = .ok (.lload_n 1, 1) := by decide +kernel
theorem dX12_fraction_1 : decode cX12_fraction 1 = .ok (.invokestatic 90, 3) := by decide +kernel
theorem dX12_fraction_4 : decode cX12_fraction 4 = .ok (.lstore 5, 2) := by decide +kernel
theorem dX12_fraction_6 : decode cX12_fraction 6 = .ok (.lload_n 3, 1) := by decide +kernel
theorem dX12_fraction_7 : decode cX12_fraction 7 = .ok (.lstore 7, 2) := by decide +kernel
theorem dX12_fraction_9 : decode cX12_fraction 9 = .ok (.lload 7, 2) := by decide +kernel
theorem dX12_fraction_11 : decode cX12_fraction 11 = .ok (.lconst 0, 1) := by decide +kernel
theorem dX12_fraction_12 : decode cX12_fraction 12 = .ok (.lcmp, 1) := by decide +kernel
theorem dX12_fraction_13 : decode cX12_fraction 13 = .ok (.ifCond .eq 21, 3) := by decide +kernel
theorem dX12_fraction_16 : decode cX12_fraction 16 = .ok (.lload 5, 2) := by decide +kernel
theorem dX12_fraction_18 : decode cX12_fraction 18 = .ok (.lload 7, 2) := by decide +kernel
theorem dX12_fraction_20 : decode cX12_fraction 20 = .ok (.lrem, 1) := by decide +kernel
theorem dX12_fraction_21 : decode cX12_fraction 21 = .ok (.lstore 9, 2) := by decide +kernel
theorem dX12_fraction_23 : decode cX12_fraction 23 = .ok (.lload 7, 2) := by decide +kernel
theorem dX12_fraction_25 : decode cX12_fraction 25 = .ok (.lstore 5, 2) := by decide +kernel
theorem dX12_fraction_27 : decode cX12_fraction 27 = .ok (.lload 9, 2) := by decide +kernel
theorem dX12_fraction_29 : decode cX12_fraction 29 = .ok (.lstore 7, 2) := by decide +kernel
theorem dX12_fraction_31 : decode cX12_fraction 31 = .ok (.goto (-22), 3) := by decide +kernel
theorem dX12_fraction_34 : decode cX12_fraction 34 = .ok (.aload_n 0, 1) := by decide +kernel
theorem dX12_fraction_35 : decode cX12_fraction 35 = .ok (.lload_n 1, 1) := by decide +kernel
theorem dX12_fraction_36 : decode cX12_fraction 36 = .ok (.lload 5, 2) := by decide +kernel
theorem dX12_fraction_38 : decode cX12_fraction 38 = .ok (.ldiv, 1) := by decide +kernel
theorem dX12_fraction_39 : decode cX12_fraction 39 = .ok (.putfield 87, 3) := by decide +kernel
theorem dX12_fraction_42 : decode cX12_fraction 42 = .ok (.aload_n 0, 1) := by decide +kernel
theorem dX12_fraction_43 : decode cX12_fraction 43 = .ok (.lload_n 3, 1) := by decide +kernel
theorem dX12_fraction_44 : decode cX12_fraction 44 = .ok (.lload 5, 2) := by decide +kernel
theorem dX12_fraction_46 : decode cX12_fraction 46 = .ok (.ldiv, 1) := by decide +kernel
theorem dX12_fraction_47 : decode cX12_fraction 47 = .ok (.putfield 7, 3) := by decide +kernel
theorem dX12_fraction_50 : decode cX12_fraction 50 = .ok (.iconst 1, 1) := by decide +kernel
theorem dX12_fraction_51 : decode cX12_fraction 51 = .ok (.ireturn, 1) := by decide +kernel
theorem dX12_cut_0 : decode cX12_cut 0 = .ok (.iload_n 0, 1) := by decide +kernel
theorem dX12_cut_1 : decode cX12_cut 1 = .ok (.ifCond .ne 10, 3) := by decide +kernel
theorem dX12_cut_4 : decode cX12_cut 4 = .ok (.lload_n 1, 1) := by decide +kernel
theorem dX12_cut_5 : decode cX12_cut 5 = .ok (.l2i, 1) := by decide +kernel
theorem dX12_cut_6 : decode cX12_cut 6 = .ok (.i2b, 1) := by decide +kernel
theorem dX12_cut_7 : decode cX12_cut 7 = .ok (.i2l, 1) := by decide +kernel
theorem dX12_cut_8 : decode cX12_cut 8 = .ok (.goto 27, 3) := by decide +kernel
theorem dX12_cut_11 : decode cX12_cut 11 = .ok (.iload_n 0, 1) := by decide +kernel
theorem dX12_cut_12 : decode cX12_cut 12 = .ok (.iconst 1, 1) := by decide +kernel
theorem dX12_cut_13 : decode cX12_cut 13 = .ok (.if_icmp .ne 10, 3) := by decide +kernel
theorem dX12_cut_16 : decode cX12_cut 16 = .ok (.lload_n 1, 1) := by decide +kernel
theorem dX12_cut_17 : decode cX12_cut 17 = .ok (.l2i, 1) := by decide +kernel
theorem dX12_cut_18 : decode cX12_cut 18 = .ok (.i2s, 1) := by decide +kernel
theorem dX12_cut_19 : decode cX12_cut 19 = .ok (.i2l, 1) := by decide +kernel
theorem dX12_cut_20 : decode cX12_cut 20 = .ok (.goto 15, 3) := by decide +kernel
theorem dX12_cut_23 : decode cX12_cut 23 = .ok (.iload_n 0, 1) := by decide +kernel
theorem dX12_cut_24 : decode cX12_cut 24 = .ok (.iconst 2, 1) := by decide +kernel
theorem dX12_cut_25 : decode cX12_cut 25 = .ok (.if_icmp .ne 9, 3) := by decide +kernel
theorem dX12_cut_28 : decode cX12_cut 28 = .ok (.lload_n 1, 1) := by decide +kernel
theorem dX12_cut_29 : decode cX12_cut 29 = .ok (.l2i, 1) := by decide +kernel
theorem dX12_cut_30 : decode cX12_cut 30 = .ok (.i2l, 1) := by decide +kernel
theorem dX12_cut_31 : decode cX12_cut 31 = .ok (.goto 4, 3) := by decide +kernel
theorem dX12_cut_34 : decode cX12_cut 34 = .ok (.lload_n 1, 1) := by decide +kernel
theorem dX12_cut_35 : decode cX12_cut 35 = .ok (.lreturn, 1) := by decide +kernel
theorem dX12_tray_0 : decode cX12_tray 0 = .ok (.aload_n 0, 1) := by decide +kernel
theorem dX12_tray_1 : decode cX12_tray 1 = .ok (.iconst 0, 1) := by decide +kernel
theorem dX12_tray_2 : decode cX12_tray 2 = .ok (.putfield 81, 3) := by decide +kernel
theorem dX12_tray_5 : decode cX12_tray 5 = .ok (.aload_n 0, 1) := by decide +kernel
theorem dX12_tray_6 : decode cX12_tray 6 = .ok (.iconst 0, 1) := by decide +kernel
theorem dX12_tray_7 : decode cX12_tray 7 = .ok (.putfield 84, 3) := by decide +kernel
theorem dX12_tray_10 : decode cX12_tray 10 = .ok (.iload_n 1, 1) := by decide +kernel
theorem dX12_tray_11 : decode cX12_tray 11 = .ok (.ifCond .lt 17, 3) := by decide +kernel
theorem dX12_tray_14 : decode cX12_tray 14 = .ok (.iload_n 1, 1) := by decide +kernel
theorem dX12_tray_15 : decode cX12_tray 15 = .ok (.iconst 4, 1) := by decide +kernel
theorem dX12_tray_16 : decode cX12_tray 16 = .ok (.if_icmp .ge 12, 3) := by decide +kernel
theorem dX12_tray_19 : decode cX12_tray 19 = .ok (.iload_n 2, 1) := by decide +kernel
theorem dX12_tray_20 : decode cX12_tray 20 = .ok (.ifCond .lt 8, 3) := by decide +kernel
theorem dX12_tray_23 : decode cX12_tray 23 = .ok (.iload_n 2, 1) := by decide +kernel
theorem dX12_tray_24 : decode cX12_tray 24 = .ok (.iconst 3, 1) := by decide +kernel
theorem dX12_tray_25 : decode cX12_tray 25 = .ok (.if_icmp .le 9, 3) := by decide +kernel
theorem dX12_tray_28 : decode cX12_tray 28 = .ok (.aload_n 0, 1) := by decide +kernel
theorem dX12_tray_29 : decode cX12_tray 29 = .ok (.iconst 1, 1) := by decide +kernel
theorem dX12_tray_30 : decode cX12_tray 30 = .ok (.invokevirtual 96, 3) := by decide +kernel
theorem dX12_tray_33 : decode cX12_tray 33 = .ok (.ireturn, 1) := by decide +kernel
theorem dX12_tray_34 : decode cX12_tray 34 = .ok (.iload_n 3, 1) := by decide +kernel
theorem dX12_tray_35 : decode cX12_tray 35 = .ok (.bipush 60, 2) := by decide +kernel
theorem dX12_tray_37 : decode cX12_tray 37 = .ok (.if_icmp .le 9, 3) := by decide +kernel
theorem dX12_tray_40 : decode cX12_tray 40 = .ok (.aload_n 0, 1) := by decide +kernel
theorem dX12_tray_41 : decode cX12_tray 41 = .ok (.iconst 5, 1) := by decide +kernel
theorem dX12_tray_42 : decode cX12_tray 42 = .ok (.invokevirtual 96, 3) := by decide +kernel
theorem dX12_tray_45 : decode cX12_tray 45 = .ok (.ireturn, 1) := by decide +kernel
theorem dX12_tray_46 : decode cX12_tray 46 = .ok (.iload_n 3, 1) := by decide +kernel
theorem dX12_tray_47 : decode cX12_tray 47 = .ok (.ifCond .ge 10, 3) := by decide +kernel
theorem dX12_tray_50 : decode cX12_tray 50 = .ok (.aload_n 0, 1) := by decide +kernel
theorem dX12_tray_51 : decode cX12_tray 51 = .ok (.bipush 6, 2) := by decide +kernel
theorem dX12_tray_53 : decode cX12_tray 53 = .ok (.invokevirtual 96, 3) := by decide +kernel
theorem dX12_tray_56 : decode cX12_tray 56 = .ok (.ireturn, 1) := by decide +kernel
theorem dX12_tray_57 : decode cX12_tray 57 = .ok (.aload_n 0, 1) := by decide +kernel
theorem dX12_tray_58 : decode cX12_tray 58 = .ok (.getfield 13, 3) := by decide +kernel
theorem dX12_tray_61 : decode cX12_tray 61 = .ok (.iload_n 1, 1) := by decide +kernel
theorem dX12_tray_62 : decode cX12_tray 62 = .ok (.iload_n 2, 1) := by decide +kernel
theorem dX12_tray_63 : decode cX12_tray 63 = .ok (.iastore, 1) := by decide +kernel
theorem dX12_tray_64 : decode cX12_tray 64 = .ok (.aload_n 0, 1) := by decide +kernel
theorem dX12_tray_65 : decode cX12_tray 65 = .ok (.getfield 17, 3) := by decide +kernel
theorem dX12_tray_68 : decode cX12_tray 68 = .ok (.iload_n 1, 1) := by decide +kernel
theorem dX12_tray_69 : decode cX12_tray 69 = .ok (.iload_n 3, 1) := by decide +kernel
theorem dX12_tray_70 : decode cX12_tray 70 = .ok (.iastore, 1) := by decide +kernel
theorem dX12_tray_71 : decode cX12_tray 71 = .ok (.iconst 0, 1) := by decide +kernel
theorem dX12_tray_72 : decode cX12_tray 72 = .ok (.istore 4, 2) := by decide +kernel
theorem dX12_tray_74 : decode cX12_tray 74 = .ok (.iload 4, 2) := by decide +kernel
theorem dX12_tray_76 : decode cX12_tray 76 = .ok (.iload_n 3, 1) := by decide +kernel
theorem dX12_tray_77 : decode cX12_tray 77 = .ok (.if_icmp .ge 22, 3) := by decide +kernel
theorem dX12_tray_80 : decode cX12_tray 80 = .ok (.aload_n 0, 1) := by decide +kernel
theorem dX12_tray_81 : decode cX12_tray 81 = .ok (.getfield 20, 3) := by decide +kernel
theorem dX12_tray_84 : decode cX12_tray 84 = .ok (.bipush 60, 2) := by decide +kernel
theorem dX12_tray_86 : decode cX12_tray 86 = .ok (.iload_n 1, 1) := by decide +kernel
theorem dX12_tray_87 : decode cX12_tray 87 = .ok (.imul, 1) := by decide +kernel
theorem dX12_tray_88 : decode cX12_tray 88 = .ok (.iload 4, 2) := by decide +kernel
theorem dX12_tray_90 : decode cX12_tray 90 = .ok (.iadd, 1) := by decide +kernel
theorem dX12_tray_91 : decode cX12_tray 91 = .ok (.lconst 0, 1) := by decide +kernel
theorem dX12_tray_92 : decode cX12_tray 92 = .ok (.lastore, 1) := by decide +kernel
theorem dX12_tray_93 : decode cX12_tray 93 = .ok (.iinc 4 1, 3) := by decide +kernel
theorem dX12_tray_96 : decode cX12_tray 96 = .ok (.goto (-22), 3) := by decide +kernel
theorem dX12_tray_99 : decode cX12_tray 99 = .ok (.iconst 1, 1) := by decide +kernel
theorem dX12_tray_100 : decode cX12_tray 100 = .ok (.ireturn, 1) := by decide +kernel
theorem dX12_trayed_0 : decode cX12_trayed 0 = .ok (.iload_n 1, 1) := by decide +kernel
theorem dX12_trayed_1 : decode cX12_trayed 1 = .ok (.ifCond .lt 8, 3) := by decide +kernel
theorem dX12_trayed_4 : decode cX12_trayed 4 = .ok (.iload_n 1, 1) := by decide +kernel
theorem dX12_trayed_5 : decode cX12_trayed 5 = .ok (.iconst 4, 1) := by decide +kernel
theorem dX12_trayed_6 : decode cX12_trayed 6 = .ok (.if_icmp .lt 7, 3) := by decide +kernel
theorem dX12_trayed_9 : decode cX12_trayed 9 = .ok (.iconst 1, 1) := by decide +kernel
theorem dX12_trayed_10 : decode cX12_trayed 10 = .ok (.goto 17, 3) := by decide +kernel
theorem dX12_trayed_13 : decode cX12_trayed 13 = .ok (.aload_n 0, 1) := by decide +kernel
theorem dX12_trayed_14 : decode cX12_trayed 14 = .ok (.getfield 17, 3) := by decide +kernel
theorem dX12_trayed_17 : decode cX12_trayed 17 = .ok (.iload_n 1, 1) := by decide +kernel
theorem dX12_trayed_18 : decode cX12_trayed 18 = .ok (.iaload, 1) := by decide +kernel
theorem dX12_trayed_19 : decode cX12_trayed 19 = .ok (.ifCond .ge 7, 3) := by decide +kernel
theorem dX12_trayed_22 : decode cX12_trayed 22 = .ok (.iconst 3, 1) := by decide +kernel
theorem dX12_trayed_23 : decode cX12_trayed 23 = .ok (.goto 4, 3) := by decide +kernel
theorem dX12_trayed_26 : decode cX12_trayed 26 = .ok (.iconst 0, 1) := by decide +kernel
theorem dX12_trayed_27 : decode cX12_trayed 27 = .ok (.ireturn, 1) := by decide +kernel
theorem dX12_placed_0 : decode cX12_placed 0 = .ok (.aload_n 0, 1) := by decide +kernel
theorem dX12_placed_1 : decode cX12_placed 1 = .ok (.iload_n 1, 1) := by decide +kernel
theorem dX12_placed_2 : decode cX12_placed 2 = .ok (.invokevirtual 100, 3) := by decide +kernel
theorem dX12_placed_5 : decode cX12_placed 5 = .ok (.istore_n 3, 1) := by decide +kernel
theorem dX12_placed_6 : decode cX12_placed 6 = .ok (.iload_n 3, 1) := by decide +kernel
theorem dX12_placed_7 : decode cX12_placed 7 = .ok (.ifCond .le 7, 3) := by decide +kernel
theorem dX12_placed_10 : decode cX12_placed 10 = .ok (.iload_n 3, 1) := by decide +kernel
theorem dX12_placed_11 : decode cX12_placed 11 = .ok (.goto 22, 3) := by decide +kernel
theorem dX12_placed_14 : decode cX12_placed 14 = .ok (.iload_n 2, 1) := by decide +kernel
theorem dX12_placed_15 : decode cX12_placed 15 = .ok (.ifCond .lt 13, 3) := by decide +kernel
theorem dX12_placed_18 : decode cX12_placed 18 = .ok (.iload_n 2, 1) := by decide +kernel
theorem dX12_placed_19 : decode cX12_placed 19 = .ok (.aload_n 0, 1) := by decide +kernel
theorem dX12_placed_20 : decode cX12_placed 20 = .ok (.getfield 17, 3) := by decide +kernel
theorem dX12_placed_23 : decode cX12_placed 23 = .ok (.iload_n 1, 1) := by decide +kernel
theorem dX12_placed_24 : decode cX12_placed 24 = .ok (.iaload, 1) := by decide +kernel
theorem dX12_placed_25 : decode cX12_placed 25 = .ok (.if_icmp .lt 7, 3) := by decide +kernel
theorem dX12_placed_28 : decode cX12_placed 28 = .ok (.iconst 4, 1) := by decide +kernel
theorem dX12_placed_29 : decode cX12_placed 29 = .ok (.goto 4, 3) := by decide +kernel
theorem dX12_placed_32 : decode cX12_placed 32 = .ok (.iconst 0, 1) := by decide +kernel
theorem dX12_placed_33 : decode cX12_placed 33 = .ok (.ireturn, 1) := by decide +kernel
theorem dX12_write_0 : decode cX12_write 0 = .ok (.aload_n 0, 1) := by decide +kernel
theorem dX12_write_1 : decode cX12_write 1 = .ok (.iconst 0, 1) := by decide +kernel
theorem dX12_write_2 : decode cX12_write 2 = .ok (.putfield 81, 3) := by decide +kernel
theorem dX12_write_5 : decode cX12_write 5 = .ok (.aload_n 0, 1) := by decide +kernel
theorem dX12_write_6 : decode cX12_write 6 = .ok (.aload_n 0, 1) := by decide +kernel
theorem dX12_write_7 : decode cX12_write 7 = .ok (.iload_n 1, 1) := by decide +kernel
theorem dX12_write_8 : decode cX12_write 8 = .ok (.iload_n 2, 1) := by decide +kernel
theorem dX12_write_9 : decode cX12_write 9 = .ok (.invokevirtual 104, 3) := by decide +kernel
theorem dX12_write_12 : decode cX12_write 12 = .ok (.putfield 84, 3) := by decide +kernel
theorem dX12_write_15 : decode cX12_write 15 = .ok (.aload_n 0, 1) := by decide +kernel
theorem dX12_write_16 : decode cX12_write 16 = .ok (.getfield 84, 3) := by decide +kernel
theorem dX12_write_19 : decode cX12_write 19 = .ok (.ifCond .le 5, 3) := by decide +kernel
theorem dX12_write_22 : decode cX12_write 22 = .ok (.iconst 0, 1) := by decide +kernel
theorem dX12_write_23 : decode cX12_write 23 = .ok (.ireturn, 1) := by decide +kernel
theorem dX12_write_24 : decode cX12_write 24 = .ok (.aload_n 0, 1) := by decide +kernel
theorem dX12_write_25 : decode cX12_write 25 = .ok (.getfield 20, 3) := by decide +kernel
theorem dX12_write_28 : decode cX12_write 28 = .ok (.bipush 60, 2) := by decide +kernel
theorem dX12_write_30 : decode cX12_write 30 = .ok (.iload_n 1, 1) := by decide +kernel
theorem dX12_write_31 : decode cX12_write 31 = .ok (.imul, 1) := by decide +kernel
theorem dX12_write_32 : decode cX12_write 32 = .ok (.iload_n 2, 1) := by decide +kernel
theorem dX12_write_33 : decode cX12_write 33 = .ok (.iadd, 1) := by decide +kernel
theorem dX12_write_34 : decode cX12_write 34 = .ok (.aload_n 0, 1) := by decide +kernel
theorem dX12_write_35 : decode cX12_write 35 = .ok (.getfield 13, 3) := by decide +kernel
theorem dX12_write_38 : decode cX12_write 38 = .ok (.iload_n 1, 1) := by decide +kernel
theorem dX12_write_39 : decode cX12_write 39 = .ok (.iaload, 1) := by decide +kernel
theorem dX12_write_40 : decode cX12_write 40 = .ok (.lload_n 3, 1) := by decide +kernel
theorem dX12_write_41 : decode cX12_write 41 = .ok (.invokestatic 108, 3) := by decide +kernel
theorem dX12_write_44 : decode cX12_write 44 = .ok (.lastore, 1) := by decide +kernel
theorem dX12_write_45 : decode cX12_write 45 = .ok (.iconst 1, 1) := by decide +kernel
theorem dX12_write_46 : decode cX12_write 46 = .ok (.ireturn, 1) := by decide +kernel
theorem dX12_read_0 : decode cX12_read 0 = .ok (.aload_n 0, 1) := by decide +kernel
theorem dX12_read_1 : decode cX12_read 1 = .ok (.iconst 0, 1) := by decide +kernel
theorem dX12_read_2 : decode cX12_read 2 = .ok (.putfield 81, 3) := by decide +kernel
theorem dX12_read_5 : decode cX12_read 5 = .ok (.aload_n 0, 1) := by decide +kernel
theorem dX12_read_6 : decode cX12_read 6 = .ok (.aload_n 0, 1) := by decide +kernel
theorem dX12_read_7 : decode cX12_read 7 = .ok (.iload_n 1, 1) := by decide +kernel
theorem dX12_read_8 : decode cX12_read 8 = .ok (.iload_n 2, 1) := by decide +kernel
theorem dX12_read_9 : decode cX12_read 9 = .ok (.invokevirtual 104, 3) := by decide +kernel
theorem dX12_read_12 : decode cX12_read 12 = .ok (.putfield 84, 3) := by decide +kernel
theorem dX12_read_15 : decode cX12_read 15 = .ok (.aload_n 0, 1) := by decide +kernel
theorem dX12_read_16 : decode cX12_read 16 = .ok (.getfield 84, 3) := by decide +kernel
theorem dX12_read_19 : decode cX12_read 19 = .ok (.ifCond .le 9, 3) := by decide +kernel
theorem dX12_read_22 : decode cX12_read 22 = .ok (.ldc2_w 112, 3) := by decide +kernel
theorem dX12_read_25 : decode cX12_read 25 = .ok (.goto 14, 3) := by decide +kernel
theorem dX12_read_28 : decode cX12_read 28 = .ok (.aload_n 0, 1) := by decide +kernel
theorem dX12_read_29 : decode cX12_read 29 = .ok (.getfield 20, 3) := by decide +kernel
theorem dX12_read_32 : decode cX12_read 32 = .ok (.bipush 60, 2) := by decide +kernel
theorem dX12_read_34 : decode cX12_read 34 = .ok (.iload_n 1, 1) := by decide +kernel
theorem dX12_read_35 : decode cX12_read 35 = .ok (.imul, 1) := by decide +kernel
theorem dX12_read_36 : decode cX12_read 36 = .ok (.iload_n 2, 1) := by decide +kernel
theorem dX12_read_37 : decode cX12_read 37 = .ok (.iadd, 1) := by decide +kernel
theorem dX12_read_38 : decode cX12_read 38 = .ok (.laload, 1) := by decide +kernel
theorem dX12_read_39 : decode cX12_read 39 = .ok (.lreturn, 1) := by decide +kernel
theorem dX12_pour_0 : decode cX12_pour 0 = .ok (.aload_n 0, 1) := by decide +kernel
theorem dX12_pour_1 : decode cX12_pour 1 = .ok (.iconst 0, 1) := by decide +kernel
theorem dX12_pour_2 : decode cX12_pour 2 = .ok (.putfield 81, 3) := by decide +kernel
theorem dX12_pour_5 : decode cX12_pour 5 = .ok (.aload_n 0, 1) := by decide +kernel
theorem dX12_pour_6 : decode cX12_pour 6 = .ok (.iconst 0, 1) := by decide +kernel
theorem dX12_pour_7 : decode cX12_pour 7 = .ok (.putfield 84, 3) := by decide +kernel
theorem dX12_pour_10 : decode cX12_pour 10 = .ok (.iload_n 1, 1) := by decide +kernel
theorem dX12_pour_11 : decode cX12_pour 11 = .ok (.ifCond .lt 17, 3) := by decide +kernel
theorem dX12_pour_14 : decode cX12_pour 14 = .ok (.iload_n 1, 1) := by decide +kernel
theorem dX12_pour_15 : decode cX12_pour 15 = .ok (.iconst 4, 1) := by decide +kernel
theorem dX12_pour_16 : decode cX12_pour 16 = .ok (.if_icmp .ge 12, 3) := by decide +kernel
theorem dX12_pour_19 : decode cX12_pour 19 = .ok (.iload_n 3, 1) := by decide +kernel
theorem dX12_pour_20 : decode cX12_pour 20 = .ok (.ifCond .lt 8, 3) := by decide +kernel
theorem dX12_pour_23 : decode cX12_pour 23 = .ok (.iload_n 3, 1) := by decide +kernel
theorem dX12_pour_24 : decode cX12_pour 24 = .ok (.iconst 4, 1) := by decide +kernel
theorem dX12_pour_25 : decode cX12_pour 25 = .ok (.if_icmp .lt 9, 3) := by decide +kernel
theorem dX12_pour_28 : decode cX12_pour 28 = .ok (.aload_n 0, 1) := by decide +kernel
theorem dX12_pour_29 : decode cX12_pour 29 = .ok (.iconst 1, 1) := by decide +kernel
theorem dX12_pour_30 : decode cX12_pour 30 = .ok (.invokevirtual 96, 3) := by decide +kernel
theorem dX12_pour_33 : decode cX12_pour 33 = .ok (.ireturn, 1) := by decide +kernel
theorem dX12_pour_34 : decode cX12_pour 34 = .ok (.aload_n 0, 1) := by decide +kernel
theorem dX12_pour_35 : decode cX12_pour 35 = .ok (.getfield 17, 3) := by decide +kernel
theorem dX12_pour_38 : decode cX12_pour 38 = .ok (.iload_n 1, 1) := by decide +kernel
theorem dX12_pour_39 : decode cX12_pour 39 = .ok (.iaload, 1) := by decide +kernel
theorem dX12_pour_40 : decode cX12_pour 40 = .ok (.ifCond .lt 12, 3) := by decide +kernel
theorem dX12_pour_43 : decode cX12_pour 43 = .ok (.aload_n 0, 1) := by decide +kernel
theorem dX12_pour_44 : decode cX12_pour 44 = .ok (.getfield 17, 3) := by decide +kernel
theorem dX12_pour_47 : decode cX12_pour 47 = .ok (.iload_n 3, 1) := by decide +kernel
theorem dX12_pour_48 : decode cX12_pour 48 = .ok (.iaload, 1) := by decide +kernel
theorem dX12_pour_49 : decode cX12_pour 49 = .ok (.ifCond .ge 9, 3) := by decide +kernel
theorem dX12_pour_52 : decode cX12_pour 52 = .ok (.aload_n 0, 1) := by decide +kernel
theorem dX12_pour_53 : decode cX12_pour 53 = .ok (.iconst 3, 1) := by decide +kernel
theorem dX12_pour_54 : decode cX12_pour 54 = .ok (.invokevirtual 96, 3) := by decide +kernel
theorem dX12_pour_57 : decode cX12_pour 57 = .ok (.ireturn, 1) := by decide +kernel
theorem dX12_pour_58 : decode cX12_pour 58 = .ok (.aload_n 0, 1) := by decide +kernel
theorem dX12_pour_59 : decode cX12_pour 59 = .ok (.getfield 13, 3) := by decide +kernel
theorem dX12_pour_62 : decode cX12_pour 62 = .ok (.iload_n 1, 1) := by decide +kernel
theorem dX12_pour_63 : decode cX12_pour 63 = .ok (.iaload, 1) := by decide +kernel
theorem dX12_pour_64 : decode cX12_pour 64 = .ok (.aload_n 0, 1) := by decide +kernel
theorem dX12_pour_65 : decode cX12_pour 65 = .ok (.getfield 13, 3) := by decide +kernel
theorem dX12_pour_68 : decode cX12_pour 68 = .ok (.iload_n 3, 1) := by decide +kernel
theorem dX12_pour_69 : decode cX12_pour 69 = .ok (.iaload, 1) := by decide +kernel
theorem dX12_pour_70 : decode cX12_pour 70 = .ok (.if_icmp .eq 10, 3) := by decide +kernel
theorem dX12_pour_73 : decode cX12_pour 73 = .ok (.aload_n 0, 1) := by decide +kernel
theorem dX12_pour_74 : decode cX12_pour 74 = .ok (.bipush 11, 2) := by decide +kernel
theorem dX12_pour_76 : decode cX12_pour 76 = .ok (.invokevirtual 96, 3) := by decide +kernel
theorem dX12_pour_79 : decode cX12_pour 79 = .ok (.ireturn, 1) := by decide +kernel
theorem dX12_pour_80 : decode cX12_pour 80 = .ok (.iload 5, 2) := by decide +kernel
theorem dX12_pour_82 : decode cX12_pour 82 = .ok (.ifCond .ge 10, 3) := by decide +kernel
theorem dX12_pour_85 : decode cX12_pour 85 = .ok (.aload_n 0, 1) := by decide +kernel
theorem dX12_pour_86 : decode cX12_pour 86 = .ok (.bipush 6, 2) := by decide +kernel
theorem dX12_pour_88 : decode cX12_pour 88 = .ok (.invokevirtual 96, 3) := by decide +kernel
theorem dX12_pour_91 : decode cX12_pour 91 = .ok (.ireturn, 1) := by decide +kernel
theorem dX12_pour_92 : decode cX12_pour 92 = .ok (.iload_n 2, 1) := by decide +kernel
theorem dX12_pour_93 : decode cX12_pour 93 = .ok (.ifCond .lt 43, 3) := by decide +kernel
theorem dX12_pour_96 : decode cX12_pour 96 = .ok (.iload 4, 2) := by decide +kernel
theorem dX12_pour_98 : decode cX12_pour 98 = .ok (.ifCond .lt 38, 3) := by decide +kernel
theorem dX12_pour_101 : decode cX12_pour 101 = .ok (.iload_n 2, 1) := by decide +kernel
theorem dX12_pour_102 : decode cX12_pour 102 = .ok (.i2l, 1) := by decide +kernel
theorem dX12_pour_103 : decode cX12_pour 103 = .ok (.iload 5, 2) := by decide +kernel
theorem dX12_pour_105 : decode cX12_pour 105 = .ok (.i2l, 1) := by decide +kernel
theorem dX12_pour_106 : decode cX12_pour 106 = .ok (.ladd, 1) := by decide +kernel
theorem dX12_pour_107 : decode cX12_pour 107 = .ok (.aload_n 0, 1) := by decide +kernel
theorem dX12_pour_108 : decode cX12_pour 108 = .ok (.getfield 17, 3) := by decide +kernel
theorem dX12_pour_111 : decode cX12_pour 111 = .ok (.iload_n 1, 1) := by decide +kernel
theorem dX12_pour_112 : decode cX12_pour 112 = .ok (.iaload, 1) := by decide +kernel
theorem dX12_pour_113 : decode cX12_pour 113 = .ok (.i2l, 1) := by decide +kernel
theorem dX12_pour_114 : decode cX12_pour 114 = .ok (.lcmp, 1) := by decide +kernel
theorem dX12_pour_115 : decode cX12_pour 115 = .ok (.ifCond .gt 21, 3) := by decide +kernel
theorem dX12_pour_118 : decode cX12_pour 118 = .ok (.iload 4, 2) := by decide +kernel
theorem dX12_pour_120 : decode cX12_pour 120 = .ok (.i2l, 1) := by decide +kernel
theorem dX12_pour_121 : decode cX12_pour 121 = .ok (.iload 5, 2) := by decide +kernel
theorem dX12_pour_123 : decode cX12_pour 123 = .ok (.i2l, 1) := by decide +kernel
theorem dX12_pour_124 : decode cX12_pour 124 = .ok (.ladd, 1) := by decide +kernel
theorem dX12_pour_125 : decode cX12_pour 125 = .ok (.aload_n 0, 1) := by decide +kernel
theorem dX12_pour_126 : decode cX12_pour 126 = .ok (.getfield 17, 3) := by decide +kernel
theorem dX12_pour_129 : decode cX12_pour 129 = .ok (.iload_n 3, 1) := by decide +kernel
theorem dX12_pour_130 : decode cX12_pour 130 = .ok (.iaload, 1) := by decide +kernel
theorem dX12_pour_131 : decode cX12_pour 131 = .ok (.i2l, 1) := by decide +kernel
theorem dX12_pour_132 : decode cX12_pour 132 = .ok (.lcmp, 1) := by decide +kernel
theorem dX12_pour_133 : decode cX12_pour 133 = .ok (.ifCond .le 9, 3) := by decide +kernel
theorem dX12_pour_136 : decode cX12_pour 136 = .ok (.aload_n 0, 1) := by decide +kernel
theorem dX12_pour_137 : decode cX12_pour 137 = .ok (.iconst 4, 1) := by decide +kernel
theorem dX12_pour_138 : decode cX12_pour 138 = .ok (.invokevirtual 96, 3) := by decide +kernel
theorem dX12_pour_141 : decode cX12_pour 141 = .ok (.ireturn, 1) := by decide +kernel
theorem dX12_pour_142 : decode cX12_pour 142 = .ok (.iload_n 2, 1) := by decide +kernel
theorem dX12_pour_143 : decode cX12_pour 143 = .ok (.iload 4, 2) := by decide +kernel
theorem dX12_pour_145 : decode cX12_pour 145 = .ok (.if_icmp .ge 7, 3) := by decide +kernel
theorem dX12_pour_148 : decode cX12_pour 148 = .ok (.iconst 1, 1) := by decide +kernel
theorem dX12_pour_149 : decode cX12_pour 149 = .ok (.goto 4, 3) := by decide +kernel
theorem dX12_pour_152 : decode cX12_pour 152 = .ok (.iconst 0, 1) := by decide +kernel
theorem dX12_pour_153 : decode cX12_pour 153 = .ok (.istore 6, 2) := by decide +kernel
theorem dX12_pour_155 : decode cX12_pour 155 = .ok (.iconst 0, 1) := by decide +kernel
theorem dX12_pour_156 : decode cX12_pour 156 = .ok (.istore 7, 2) := by decide +kernel
theorem dX12_pour_158 : decode cX12_pour 158 = .ok (.iload 7, 2) := by decide +kernel
theorem dX12_pour_160 : decode cX12_pour 160 = .ok (.iload 5, 2) := by decide +kernel
theorem dX12_pour_162 : decode cX12_pour 162 = .ok (.if_icmp .ge 57, 3) := by decide +kernel
theorem dX12_pour_165 : decode cX12_pour 165 = .ok (.iload 6, 2) := by decide +kernel
theorem dX12_pour_167 : decode cX12_pour 167 = .ok (.ifCond .eq 13, 3) := by decide +kernel
theorem dX12_pour_170 : decode cX12_pour 170 = .ok (.iload 5, 2) := by decide +kernel
theorem dX12_pour_172 : decode cX12_pour 172 = .ok (.iconst 1, 1) := by decide +kernel
theorem dX12_pour_173 : decode cX12_pour 173 = .ok (.isub, 1) := by decide +kernel
theorem dX12_pour_174 : decode cX12_pour 174 = .ok (.iload 7, 2) := by decide +kernel
theorem dX12_pour_176 : decode cX12_pour 176 = .ok (.isub, 1) := by decide +kernel
theorem dX12_pour_177 : decode cX12_pour 177 = .ok (.goto 5, 3) := by decide +kernel
theorem dX12_pour_180 : decode cX12_pour 180 = .ok (.iload 7, 2) := by decide +kernel
theorem dX12_pour_182 : decode cX12_pour 182 = .ok (.istore 8, 2) := by decide +kernel
theorem dX12_pour_184 : decode cX12_pour 184 = .ok (.aload_n 0, 1) := by decide +kernel
theorem dX12_pour_185 : decode cX12_pour 185 = .ok (.getfield 20, 3) := by decide +kernel
theorem dX12_pour_188 : decode cX12_pour 188 = .ok (.bipush 60, 2) := by decide +kernel
theorem dX12_pour_190 : decode cX12_pour 190 = .ok (.iload_n 3, 1) := by decide +kernel
theorem dX12_pour_191 : decode cX12_pour 191 = .ok (.imul, 1) := by decide +kernel
theorem dX12_pour_192 : decode cX12_pour 192 = .ok (.iload 4, 2) := by decide +kernel
theorem dX12_pour_194 : decode cX12_pour 194 = .ok (.iadd, 1) := by decide +kernel
theorem dX12_pour_195 : decode cX12_pour 195 = .ok (.iload 8, 2) := by decide +kernel
theorem dX12_pour_197 : decode cX12_pour 197 = .ok (.iadd, 1) := by decide +kernel
theorem dX12_pour_198 : decode cX12_pour 198 = .ok (.aload_n 0, 1) := by decide +kernel
theorem dX12_pour_199 : decode cX12_pour 199 = .ok (.getfield 20, 3) := by decide +kernel
theorem dX12_pour_202 : decode cX12_pour 202 = .ok (.bipush 60, 2) := by decide +kernel
theorem dX12_pour_204 : decode cX12_pour 204 = .ok (.iload_n 1, 1) := by decide +kernel
theorem dX12_pour_205 : decode cX12_pour 205 = .ok (.imul, 1) := by decide +kernel
theorem dX12_pour_206 : decode cX12_pour 206 = .ok (.iload_n 2, 1) := by decide +kernel
theorem dX12_pour_207 : decode cX12_pour 207 = .ok (.iadd, 1) := by decide +kernel
theorem dX12_pour_208 : decode cX12_pour 208 = .ok (.iload 8, 2) := by decide +kernel
theorem dX12_pour_210 : decode cX12_pour 210 = .ok (.iadd, 1) := by decide +kernel
theorem dX12_pour_211 : decode cX12_pour 211 = .ok (.laload, 1) := by decide +kernel
theorem dX12_pour_212 : decode cX12_pour 212 = .ok (.lastore, 1) := by decide +kernel
theorem dX12_pour_213 : decode cX12_pour 213 = .ok (.iinc 7 1, 3) := by decide +kernel
theorem dX12_pour_216 : decode cX12_pour 216 = .ok (.goto (-58), 3) := by decide +kernel
theorem dX12_pour_219 : decode cX12_pour 219 = .ok (.iconst 1, 1) := by decide +kernel
theorem dX12_pour_220 : decode cX12_pour 220 = .ok (.ireturn, 1) := by decide +kernel
theorem dX12_numberOf_0 : decode cX12_numberOf 0 = .ok (.aload_n 0, 1) := by decide +kernel
theorem dX12_numberOf_1 : decode cX12_numberOf 1 = .ok (.getfield 20, 3) := by decide +kernel
theorem dX12_numberOf_4 : decode cX12_numberOf 4 = .ok (.bipush 60, 2) := by decide +kernel
theorem dX12_numberOf_6 : decode cX12_numberOf 6 = .ok (.iload_n 1, 1) := by decide +kernel
theorem dX12_numberOf_7 : decode cX12_numberOf 7 = .ok (.imul, 1) := by decide +kernel
theorem dX12_numberOf_8 : decode cX12_numberOf 8 = .ok (.iload_n 2, 1) := by decide +kernel
theorem dX12_numberOf_9 : decode cX12_numberOf 9 = .ok (.iadd, 1) := by decide +kernel
theorem dX12_numberOf_10 : decode cX12_numberOf 10 = .ok (.laload, 1) := by decide +kernel
theorem dX12_numberOf_11 : decode cX12_numberOf 11 = .ok (.lreturn, 1) := by decide +kernel
theorem dX12_isTray_0 : decode cX12_isTray 0 = .ok (.iload_n 1, 1) := by decide +kernel
theorem dX12_isTray_1 : decode cX12_isTray 1 = .ok (.i2l, 1) := by decide +kernel
theorem dX12_isTray_2 : decode cX12_isTray 2 = .ok (.lconst 0, 1) := by decide +kernel
theorem dX12_isTray_3 : decode cX12_isTray 3 = .ok (.ldc2_w 114, 3) := by decide +kernel
theorem dX12_isTray_6 : decode cX12_isTray 6 = .ok (.invokestatic 116, 3) := by decide +kernel
theorem dX12_isTray_9 : decode cX12_isTray 9 = .ok (.ireturn, 1) := by decide +kernel
theorem dX12_look2_0 : decode cX12_look2 0 = .ok (.iload_n 1, 1) := by decide +kernel
theorem dX12_look2_1 : decode cX12_look2 1 = .ok (.aload_n 0, 1) := by decide +kernel
theorem dX12_look2_2 : decode cX12_look2 2 = .ok (.getfield 120, 3) := by decide +kernel
theorem dX12_look2_5 : decode cX12_look2 5 = .ok (.if_icmp .ge 16, 3) := by decide +kernel
theorem dX12_look2_8 : decode cX12_look2 8 = .ok (.aload_n 0, 1) := by decide +kernel
theorem dX12_look2_9 : decode cX12_look2 9 = .ok (.getfield 24, 3) := by decide +kernel
theorem dX12_look2_12 : decode cX12_look2 12 = .ok (.iload_n 1, 1) := by decide +kernel
theorem dX12_look2_13 : decode cX12_look2 13 = .ok (.baload, 1) := by decide +kernel
theorem dX12_look2_14 : decode cX12_look2 14 = .ok (.sipush 255, 3) := by decide +kernel
theorem dX12_look2_17 : decode cX12_look2 17 = .ok (.iand, 1) := by decide +kernel
theorem dX12_look2_18 : decode cX12_look2 18 = .ok (.goto 4, 3) := by decide +kernel
theorem dX12_look2_21 : decode cX12_look2 21 = .ok (.iconst 0, 1) := by decide +kernel
theorem dX12_look2_22 : decode cX12_look2 22 = .ok (.ireturn, 1) := by decide +kernel
theorem dX12_isLetter_0 : decode cX12_isLetter 0 = .ok (.iload_n 0, 1) := by decide +kernel
theorem dX12_isLetter_1 : decode cX12_isLetter 1 = .ok (.bipush 97, 2) := by decide +kernel
theorem dX12_isLetter_3 : decode cX12_isLetter 3 = .ok (.if_icmp .lt 13, 3) := by decide +kernel
theorem dX12_isLetter_6 : decode cX12_isLetter 6 = .ok (.iload_n 0, 1) := by decide +kernel
theorem dX12_isLetter_7 : decode cX12_isLetter 7 = .ok (.bipush 122, 2) := by decide +kernel
theorem dX12_isLetter_9 : decode cX12_isLetter 9 = .ok (.if_icmp .gt 7, 3) := by decide +kernel
theorem dX12_isLetter_12 : decode cX12_isLetter 12 = .ok (.iconst 1, 1) := by decide +kernel
theorem dX12_isLetter_13 : decode cX12_isLetter 13 = .ok (.goto 4, 3) := by decide +kernel
theorem dX12_isLetter_16 : decode cX12_isLetter 16 = .ok (.iconst 0, 1) := by decide +kernel
theorem dX12_isLetter_17 : decode cX12_isLetter 17 = .ok (.ireturn, 1) := by decide +kernel
theorem dX12_isDigit_0 : decode cX12_isDigit 0 = .ok (.iload_n 0, 1) := by decide +kernel
theorem dX12_isDigit_1 : decode cX12_isDigit 1 = .ok (.bipush 48, 2) := by decide +kernel
theorem dX12_isDigit_3 : decode cX12_isDigit 3 = .ok (.if_icmp .lt 13, 3) := by decide +kernel
theorem dX12_isDigit_6 : decode cX12_isDigit 6 = .ok (.iload_n 0, 1) := by decide +kernel
theorem dX12_isDigit_7 : decode cX12_isDigit 7 = .ok (.bipush 57, 2) := by decide +kernel
theorem dX12_isDigit_9 : decode cX12_isDigit 9 = .ok (.if_icmp .gt 7, 3) := by decide +kernel
theorem dX12_isDigit_12 : decode cX12_isDigit 12 = .ok (.iconst 1, 1) := by decide +kernel
theorem dX12_isDigit_13 : decode cX12_isDigit 13 = .ok (.goto 4, 3) := by decide +kernel
theorem dX12_isDigit_16 : decode cX12_isDigit 16 = .ok (.iconst 0, 1) := by decide +kernel
theorem dX12_isDigit_17 : decode cX12_isDigit 17 = .ok (.ireturn, 1) := by decide +kernel
theorem dX12_isSignByte_0 : decode cX12_isSignByte 0 = .ok (.iload_n 1, 1) := by decide +kernel
theorem dX12_isSignByte_1 : decode cX12_isSignByte 1 = .ok (.bipush 59, 2) := by decide +kernel
theorem dX12_isSignByte_3 : decode cX12_isSignByte 3 = .ok (.if_icmp .eq 21, 3) := by decide +kernel
theorem dX12_isSignByte_6 : decode cX12_isSignByte 6 = .ok (.iload_n 1, 1) := by decide +kernel
theorem dX12_isSignByte_7 : decode cX12_isSignByte 7 = .ok (.bipush 60, 2) := by decide +kernel
theorem dX12_isSignByte_9 : decode cX12_isSignByte 9 = .ok (.if_icmp .eq 15, 3) := by decide +kernel
theorem dX12_isSignByte_12 : decode cX12_isSignByte 12 = .ok (.iload_n 1, 1) := by decide +kernel
theorem dX12_isSignByte_13 : decode cX12_isSignByte 13 = .ok (.bipush 62, 2) := by decide +kernel
theorem dX12_isSignByte_15 : decode cX12_isSignByte 15 = .ok (.if_icmp .eq 9, 3) := by decide +kernel
theorem dX12_isSignByte_18 : decode cX12_isSignByte 18 = .ok (.iload_n 1, 1) := by decide +kernel
theorem dX12_isSignByte_19 : decode cX12_isSignByte 19 = .ok (.bipush 61, 2) := by decide +kernel
theorem dX12_isSignByte_21 : decode cX12_isSignByte 21 = .ok (.if_icmp .ne 7, 3) := by decide +kernel
theorem dX12_isSignByte_24 : decode cX12_isSignByte 24 = .ok (.iconst 1, 1) := by decide +kernel
theorem dX12_isSignByte_25 : decode cX12_isSignByte 25 = .ok (.goto 4, 3) := by decide +kernel
theorem dX12_isSignByte_28 : decode cX12_isSignByte 28 = .ok (.iconst 0, 1) := by decide +kernel
theorem dX12_isSignByte_29 : decode cX12_isSignByte 29 = .ok (.ireturn, 1) := by decide +kernel
theorem dX12_next_0 : decode cX12_next 0 = .ok (.aload_n 0, 1) := by decide +kernel
theorem dX12_next_1 : decode cX12_next 1 = .ok (.aload_n 0, 1) := by decide +kernel
theorem dX12_next_2 : decode cX12_next 2 = .ok (.getfield 123, 3) := by decide +kernel
theorem dX12_next_5 : decode cX12_next 5 = .ok (.putfield 126, 3) := by decide +kernel
theorem dX12_next_8 : decode cX12_next 8 = .ok (.aload_n 0, 1) := by decide +kernel
theorem dX12_next_9 : decode cX12_next 9 = .ok (.getfield 126, 3) := by decide +kernel
theorem dX12_next_12 : decode cX12_next 12 = .ok (.aload_n 0, 1) := by decide +kernel
theorem dX12_next_13 : decode cX12_next 13 = .ok (.getfield 120, 3) := by decide +kernel
theorem dX12_next_16 : decode cX12_next 16 = .ok (.if_icmp .ge 42, 3) := by decide +kernel
theorem dX12_next_19 : decode cX12_next 19 = .ok (.aload_n 0, 1) := by decide +kernel
theorem dX12_next_20 : decode cX12_next 20 = .ok (.aload_n 0, 1) := by decide +kernel
theorem dX12_next_21 : decode cX12_next 21 = .ok (.getfield 126, 3) := by decide +kernel
theorem dX12_next_24 : decode cX12_next 24 = .ok (.invokevirtual 129, 3) := by decide +kernel
theorem dX12_next_27 : decode cX12_next 27 = .ok (.bipush 10, 2) := by decide +kernel
theorem dX12_next_29 : decode cX12_next 29 = .ok (.if_icmp .eq 16, 3) := by decide +kernel
theorem dX12_next_32 : decode cX12_next 32 = .ok (.aload_n 0, 1) := by decide +kernel
theorem dX12_next_33 : decode cX12_next 33 = .ok (.aload_n 0, 1) := by decide +kernel
theorem dX12_next_34 : decode cX12_next 34 = .ok (.getfield 126, 3) := by decide +kernel
theorem dX12_next_37 : decode cX12_next 37 = .ok (.invokevirtual 129, 3) := by decide +kernel
theorem dX12_next_40 : decode cX12_next 40 = .ok (.bipush 32, 2) := by decide +kernel
theorem dX12_next_42 : decode cX12_next 42 = .ok (.if_icmp .ne 16, 3) := by decide +kernel
theorem dX12_next_45 : decode cX12_next 45 = .ok (.aload_n 0, 1) := by decide +kernel
theorem dX12_next_46 : decode cX12_next 46 = .ok (.dup, 1) := by decide +kernel
theorem dX12_next_47 : decode cX12_next 47 = .ok (.getfield 126, 3) := by decide +kernel
theorem dX12_next_50 : decode cX12_next 50 = .ok (.iconst 1, 1) := by decide +kernel
theorem dX12_next_51 : decode cX12_next 51 = .ok (.iadd, 1) := by decide +kernel
theorem dX12_next_52 : decode cX12_next 52 = .ok (.putfield 126, 3) := by decide +kernel
theorem dX12_next_55 : decode cX12_next 55 = .ok (.goto (-47), 3) := by decide +kernel
theorem dX12_next_58 : decode cX12_next 58 = .ok (.aload_n 0, 1) := by decide +kernel
theorem dX12_next_59 : decode cX12_next 59 = .ok (.aload_n 0, 1) := by decide +kernel
theorem dX12_next_60 : decode cX12_next 60 = .ok (.getfield 126, 3) := by decide +kernel
theorem dX12_next_63 : decode cX12_next 63 = .ok (.putfield 123, 3) := by decide +kernel
theorem dX12_next_66 : decode cX12_next 66 = .ok (.aload_n 0, 1) := by decide +kernel
theorem dX12_next_67 : decode cX12_next 67 = .ok (.getfield 126, 3) := by decide +kernel
theorem dX12_next_70 : decode cX12_next 70 = .ok (.aload_n 0, 1) := by decide +kernel
theorem dX12_next_71 : decode cX12_next 71 = .ok (.getfield 120, 3) := by decide +kernel
theorem dX12_next_74 : decode cX12_next 74 = .ok (.if_icmp .lt 9, 3) := by decide +kernel
theorem dX12_next_77 : decode cX12_next 77 = .ok (.aload_n 0, 1) := by decide +kernel
theorem dX12_next_78 : decode cX12_next 78 = .ok (.iconst 0, 1) := by decide +kernel
theorem dX12_next_79 : decode cX12_next 79 = .ok (.putfield 132, 3) := by decide +kernel
theorem dX12_next_82 : decode cX12_next 82 = .ok (.return_, 1) := by decide +kernel
theorem dX12_next_83 : decode cX12_next 83 = .ok (.aload_n 0, 1) := by decide +kernel
theorem dX12_next_84 : decode cX12_next 84 = .ok (.aload_n 0, 1) := by decide +kernel
theorem dX12_next_85 : decode cX12_next 85 = .ok (.getfield 126, 3) := by decide +kernel
theorem dX12_next_88 : decode cX12_next 88 = .ok (.invokevirtual 129, 3) := by decide +kernel
theorem dX12_next_91 : decode cX12_next 91 = .ok (.istore_n 1, 1) := by decide +kernel
theorem dX12_next_92 : decode cX12_next 92 = .ok (.iload_n 1, 1) := by decide +kernel
theorem dX12_next_93 : decode cX12_next 93 = .ok (.invokestatic 135, 3) := by decide +kernel
theorem dX12_next_96 : decode cX12_next 96 = .ok (.ifCond .eq 102, 3) := by decide +kernel
theorem dX12_next_99 : decode cX12_next 99 = .ok (.aload_n 0, 1) := by decide +kernel
theorem dX12_next_100 : decode cX12_next 100 = .ok (.iconst 1, 1) := by decide +kernel
theorem dX12_next_101 : decode cX12_next 101 = .ok (.putfield 132, 3) := by decide +kernel
theorem dX12_next_104 : decode cX12_next 104 = .ok (.aload_n 0, 1) := by decide +kernel
theorem dX12_next_105 : decode cX12_next 105 = .ok (.lconst 0, 1) := by decide +kernel
theorem dX12_next_106 : decode cX12_next 106 = .ok (.putfield 138, 3) := by decide +kernel
theorem dX12_next_109 : decode cX12_next 109 = .ok (.aload_n 0, 1) := by decide +kernel
theorem dX12_next_110 : decode cX12_next 110 = .ok (.aload_n 0, 1) := by decide +kernel
theorem dX12_next_111 : decode cX12_next 111 = .ok (.getfield 123, 3) := by decide +kernel
theorem dX12_next_114 : decode cX12_next 114 = .ok (.invokevirtual 129, 3) := by decide +kernel
theorem dX12_next_117 : decode cX12_next 117 = .ok (.invokestatic 135, 3) := by decide +kernel
theorem dX12_next_120 : decode cX12_next 120 = .ok (.ifCond .eq 62, 3) := by decide +kernel
theorem dX12_next_123 : decode cX12_next 123 = .ok (.aload_n 0, 1) := by decide +kernel
theorem dX12_next_124 : decode cX12_next 124 = .ok (.aload_n 0, 1) := by decide +kernel
theorem dX12_next_125 : decode cX12_next 125 = .ok (.getfield 123, 3) := by decide +kernel
theorem dX12_next_128 : decode cX12_next 128 = .ok (.aload_n 0, 1) := by decide +kernel
theorem dX12_next_129 : decode cX12_next 129 = .ok (.getfield 126, 3) := by decide +kernel
theorem dX12_next_132 : decode cX12_next 132 = .ok (.isub, 1) := by decide +kernel
theorem dX12_next_133 : decode cX12_next 133 = .ok (.bipush 8, 2) := by decide +kernel
theorem dX12_next_135 : decode cX12_next 135 = .ok (.if_icmp .ge 28, 3) := by decide +kernel
theorem dX12_next_138 : decode cX12_next 138 = .ok (.aload_n 0, 1) := by decide +kernel
theorem dX12_next_139 : decode cX12_next 139 = .ok (.getfield 138, 3) := by decide +kernel
theorem dX12_next_142 : decode cX12_next 142 = .ok (.ldc2_w 141, 3) := by decide +kernel
theorem dX12_next_145 : decode cX12_next 145 = .ok (.lmul, 1) := by decide +kernel
theorem dX12_next_146 : decode cX12_next 146 = .ok (.aload_n 0, 1) := by decide +kernel
